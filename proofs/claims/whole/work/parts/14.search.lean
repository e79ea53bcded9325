def b_X6_leavesSome_4 (N : Nat) (g4 : US → Int32 → Int32 → Int32 → Option (Bool × US)) (v_t : US) (y1 : Int32) (y2 : Int32) (y3 : Int32) : Option (Bool × US) :=
  if (v_t.1 1) ≤ y3 then (some (true, v_t)) else (if ((y1 * 5) + y3) < 0 ∨ 25 ≤ ((y1 * 5) + y3).toNatClampNeg then none else (if ((y1 * 5) + y3) < 0 ∨ 25 ≤ ((y1 * 5) + y3).toNatClampNeg then none else (if (((v_t.2.2 7) ((y1 * 5) + y3).toNatClampNeg) &&& (((v_t.2.2 6) ((y1 * 5) + y3).toNatClampNeg) >>> (y2 &&& 31))) = 0 then (some (false, v_t)) else (if (((y1 + 1) * 5) + y3) < 0 ∨ 25 ≤ (((y1 + 1) * 5) + y3).toNatClampNeg then none else (g4 (upa v_t 7 ((((y1 + 1) * 5) + y3).toNatClampNeg) (((v_t.2.2 7) ((y1 * 5) + y3).toNatClampNeg) &&& (((v_t.2.2 6) ((y1 * 5) + y3).toNatClampNeg) >>> (y2 &&& 31)))) y1 y2 (y3 + 1))))))
def f_X6_leavesSome_4 (N : Nat)  : Nat → US → Int32 → Int32 → Int32 → Option (Bool × US)
  | 0 => fun _ _ _ _ => none
  | k + 1 => fun q0 q1 q2 q3 => b_X6_leavesSome_4 N  (f_X6_leavesSome_4 N  k) q0 q1 q2 q3
def f_X6_leavesSome (N : Nat) (v_t : US) (x1 : Int32) (x2 : Int32) : Option (Bool × US) :=
  f_X6_leavesSome_4 N N v_t x1 x2 (x1 + 1)
set_option maxRecDepth 100000 in
set_option maxHeartbeats 4000000 in
theorem w_X6_leavesSome_4 {p : Program} {l : Launch} {e : Env} {s : State} {m : MethodId} {args : Array Value} {below : List Frame} {meth : Method} {c : Code} {G : GG} {A : Nat → Prop} {o_t : Nat} {a_t : Nat → Nat} {N : Nat} {g4 : US → Int32 → Int32 → Int32 → Option (Bool × US)} {v_t : US} {y1 : Int32} {y2 : Int32} {y3 : Int32} {res : Bool × US} (C : MC RX6 cX6_leavesSome 6 (some .boolean) G A p s m args meth c) (hg4 : ∀ {v_t : US} {y1 : Int32} {y2 : Int32} {y3 : Int32}, g4 v_t y1 y2 y3 = some res → ∀ {H : Heap} {locs : List Loc} {ls : Array Slot}, HP G A s [uX6 G o_t a_t v_t] H locs → lv_has ls 6 [(0, .ref o_t), (1, .int y1), (2, .int y2), (3, .int y3)] → W p l e (rmm 1) s m args below meth c H locs 0 0 (QI below G A args s (b2i res.1) [uX6 G o_t a_t res.2]) (F0 m 4 ls [])) (hf : b_X6_leavesSome_4 N g4 v_t y1 y2 y3 = some res) {H : Heap} {locs : List Loc} {ls : Array Slot} (h : HP G A s [uX6 G o_t a_t v_t] H locs) (hl : lv_has ls 6 [(0, .ref o_t), (1, .int y1), (2, .int y2), (3, .int y3)]) : W p l e (rmm 1) s m args below meth c H locs 0 0 (QI below G A args s (b2i res.1) [uX6 G o_t a_t res.2]) (F0 m 4 ls []) := by
  unfold b_X6_leavesSome_4 at hf
  refine lv_iload_n C.hx C.hb dX6_leavesSome_4 rfl (lv_at hl 3 rfl) ?_
  refine lv_aload_n C.hx C.hb dX6_leavesSome_5 rfl (lv_at hl 0 rfl) ?_
  refine g_get C h fl_X6_11 0 0 rfl rfl (v := .int (v_t.1 1)) rfl dX6_leavesSome_6 ?_
  refine lv_icmp_ge (tgt := 68) C.hx C.hb dX6_leavesSome_9 (by decide) (fun zc1 => ?_) (fun zc1 => ?_)
  · replace hf := it_t zc1 hf
    refine lv_iconst (v := 1) C.hx C.hb dX6_leavesSome_68 (by decide) ?_
    obtain rfl := Option.some.inj hf
    exact g_ret_z (b := true) C h rfl rfl rfl dX6_leavesSome_69
  · replace hf := it_f zc1 hf
    refine lv_aload_n C.hx C.hb dX6_leavesSome_12 rfl (lv_at hl 0 rfl) ?_
    refine g_get C h fl_X6_29 0 0 rfl rfl (v := .ref (a_t 6)) rfl dX6_leavesSome_13 ?_
    refine lv_iload_n C.hx C.hb dX6_leavesSome_16 rfl (lv_at hl 1 rfl) ?_
    refine lv_iconst (v := 5) C.hx C.hb dX6_leavesSome_17 (by decide) ?_
    refine lv_imul C.hx C.hb dX6_leavesSome_18 ?_
    refine lv_iload_n C.hx C.hb dX6_leavesSome_19 rfl (lv_at hl 3 rfl) ?_
    refine lv_iadd C.hx C.hb dX6_leavesSome_20 ?_
    obtain ⟨zi2, hf⟩ := ck_some hf
    refine g_iald C h 0 4 rfl rfl (f := v_t.2.2 6) zi2 dX6_leavesSome_21 ?_
    refine lv_iload_n C.hx C.hb dX6_leavesSome_22 rfl (lv_at hl 2 rfl) ?_
    refine lv_ishr C.hx C.hb dX6_leavesSome_23 ?_
    refine lv_istore (lv' := [(4, .int (((v_t.2.2 6) ((y1 * 5) + y3).toNatClampNeg) >>> (y2 &&& 31))), (0, .ref o_t), (1, .int y1), (2, .int y2), (3, .int y3)]) C.hx C.hb dX6_leavesSome_24 hl (by decide) rfl (fun ls hl => ?_)
    refine lv_aload_n C.hx C.hb dX6_leavesSome_26 rfl (lv_at hl 1 rfl) ?_
    refine g_get C h fl_X6_32 0 0 rfl rfl (v := .ref (a_t 7)) rfl dX6_leavesSome_27 ?_
    refine lv_iload_n C.hx C.hb dX6_leavesSome_30 rfl (lv_at hl 2 rfl) ?_
    refine lv_iconst (v := 5) C.hx C.hb dX6_leavesSome_31 (by decide) ?_
    refine lv_imul C.hx C.hb dX6_leavesSome_32 ?_
    refine lv_iload_n C.hx C.hb dX6_leavesSome_33 rfl (lv_at hl 4 rfl) ?_
    refine lv_iadd C.hx C.hb dX6_leavesSome_34 ?_
    obtain ⟨zi3, hf⟩ := ck_some hf
    refine g_iald C h 0 5 rfl rfl (f := v_t.2.2 7) zi3 dX6_leavesSome_35 ?_
    refine lv_iload C.hx C.hb dX6_leavesSome_36 (lv_at hl 0 rfl) ?_
    refine lv_iand C.hx C.hb dX6_leavesSome_38 ?_
    refine lv_istore (lv' := [(5, .int (((v_t.2.2 7) ((y1 * 5) + y3).toNatClampNeg) &&& (((v_t.2.2 6) ((y1 * 5) + y3).toNatClampNeg) >>> (y2 &&& 31)))), (4, .int (((v_t.2.2 6) ((y1 * 5) + y3).toNatClampNeg) >>> (y2 &&& 31))), (0, .ref o_t), (1, .int y1), (2, .int y2), (3, .int y3)]) C.hx C.hb dX6_leavesSome_39 hl (by decide) rfl (fun ls hl => ?_)
    refine lv_iload C.hx C.hb dX6_leavesSome_41 (lv_at hl 0 rfl) ?_
    refine lv_if_ne (tgt := 48) C.hx C.hb dX6_leavesSome_43 (by decide) (fun zc4 => ?_) (fun zc4 => ?_)
    · replace hf := it_f zc4 hf
      refine lv_aload_n C.hx C.hb dX6_leavesSome_48 rfl (lv_at hl 2 rfl) ?_
      refine g_get C h fl_X6_32 0 0 rfl rfl (v := .ref (a_t 7)) rfl dX6_leavesSome_49 ?_
      refine lv_iload_n C.hx C.hb dX6_leavesSome_52 rfl (lv_at hl 3 rfl) ?_
      refine lv_iconst (v := 1) C.hx C.hb dX6_leavesSome_53 (by decide) ?_
      refine lv_iadd C.hx C.hb dX6_leavesSome_54 ?_
      refine lv_iconst (v := 5) C.hx C.hb dX6_leavesSome_55 (by decide) ?_
      refine lv_imul C.hx C.hb dX6_leavesSome_56 ?_
      refine lv_iload_n C.hx C.hb dX6_leavesSome_57 rfl (lv_at hl 5 rfl) ?_
      refine lv_iadd C.hx C.hb dX6_leavesSome_58 ?_
      refine lv_iload C.hx C.hb dX6_leavesSome_59 (lv_at hl 0 rfl) ?_
      obtain ⟨zi5, hf⟩ := ck_some hf
      refine g_iast C h 0 5 rfl rfl (f := v_t.2.2 7) zi5 dX6_leavesSome_61 (u' := uX6 G o_t a_t (upa v_t 7 ((((y1 + 1) * 5) + y3).toNatClampNeg) (((v_t.2.2 7) ((y1 * 5) + y3).toNatClampNeg) &&& (((v_t.2.2 6) ((y1 * 5) + y3).toNatClampNeg) >>> (y2 &&& 31))))) (us' := [uX6 G o_t a_t (upa v_t 7 ((((y1 + 1) * 5) + y3).toNatClampNeg) (((v_t.2.2 7) ((y1 * 5) + y3).toNatClampNeg) &&& (((v_t.2.2 6) ((y1 * 5) + y3).toNatClampNeg) >>> (y2 &&& 31))))]) rfl rfl (fun H locs h => ?_)
      refine lv_iinc (v := y3 + 1) (lv' := [(3, .int (y3 + 1)), (5, .int (((v_t.2.2 7) ((y1 * 5) + y3).toNatClampNeg) &&& (((v_t.2.2 6) ((y1 * 5) + y3).toNatClampNeg) >>> (y2 &&& 31)))), (4, .int (((v_t.2.2 6) ((y1 * 5) + y3).toNatClampNeg) >>> (y2 &&& 31))), (0, .ref o_t), (1, .int y1), (2, .int y2)]) C.hx C.hb dX6_leavesSome_62 hl (k := 5) rfl rfl (by decide) rfl (fun ls hl => ?_)
      refine lv_goto (tgt := 4) C.hx C.hb dX6_leavesSome_65 (by decide) ?_
      exact hg4 hf h (lv_sub hl [3, 4, 5, 0] rfl)
    · replace hf := it_t zc4 hf
      refine lv_iconst (v := 0) C.hx C.hb dX6_leavesSome_46 (by decide) ?_
      obtain rfl := Option.some.inj hf
      exact g_ret_z (b := false) C h rfl rfl rfl dX6_leavesSome_47
set_option maxRecDepth 100000 in
set_option maxHeartbeats 4000000 in
theorem l_X6_leavesSome_4 {p : Program} {l : Launch} {e : Env} {s : State} {m : MethodId} {args : Array Value} {below : List Frame} {meth : Method} {c : Code} {G : GG} {A : Nat → Prop} {o_t : Nat} {a_t : Nat → Nat} {N : Nat}  {res : Bool × US} (C : MC RX6 cX6_leavesSome 6 (some .boolean) G A p s m args meth c)  : ∀ (k : Nat) {v_t : US} {y1 : Int32} {y2 : Int32} {y3 : Int32}, f_X6_leavesSome_4 N k v_t y1 y2 y3 = some res → ∀ {H : Heap} {locs : List Loc} {ls : Array Slot}, HP G A s [uX6 G o_t a_t v_t] H locs → lv_has ls 6 [(0, .ref o_t), (1, .int y1), (2, .int y2), (3, .int y3)] → W p l e (rmm 1) s m args below meth c H locs 0 0 (QI below G A args s (b2i res.1) [uX6 G o_t a_t res.2]) (F0 m 4 ls []) := by
  intro k
  induction k with
  | zero => intros; contradiction
  | succ k ih =>
    intro v_t y1 y2 y3 hf H locs ls h hl
    exact w_X6_leavesSome_4 (N := N) C ih hf h hl
set_option maxRecDepth 100000 in
set_option maxHeartbeats 4000000 in
theorem c_X6_leavesSome (l : Launch) (G : GG) (o_t : Nat) (a_t : Nat → Nat) (N : Nat) {v_t : US} {x1 : Int32} {x2 : Int32} {res : Bool × US} (hf : f_X6_leavesSome N v_t x1 x2 = some res) : MI l yX6_leavesSome cX6_leavesSome 6 (some .boolean) 1 [.ref o_t, .int x1, .int x2] G [uX6 G o_t a_t v_t] (b2i res.1) [uX6 G o_t a_t res.2] := by
  unfold f_X6_leavesSome at hf
  refine MI.intro (by decide) rfl (Nat.le_of_ble_eq_true rfl) (fun p e s m args below meth c A ls C h hl => ?_)
  have C : MC RX6 cX6_leavesSome 6 (some .boolean) G A p s m args meth c := C
  have hl : lv_has ls 6 [(0, .ref o_t), (1, .int x1), (2, .int x2)] := hl
  refine lv_iload_n C.hx C.hb dX6_leavesSome_0 rfl (lv_at hl 1 rfl) ?_
  refine lv_iconst (v := 1) C.hx C.hb dX6_leavesSome_1 (by decide) ?_
  refine lv_iadd C.hx C.hb dX6_leavesSome_2 ?_
  refine lv_istore_n (lv' := [(3, .int (x1 + 1)), (0, .ref o_t), (1, .int x1), (2, .int x2)]) C.hx C.hb dX6_leavesSome_3 rfl hl (by decide) rfl (fun ls hl => ?_)
  exact l_X6_leavesSome_4 C N hf h (lv_sub hl [1, 2, 3, 0] rfl)

def b_X6_fitsFrom_23 (N : Nat) (grec : US → Int32 → Option (Bool × US)) (g23 : US → Int32 → Int32 → Int32 → Option (Bool × US)) (v_t : US) (y1 : Int32) (y2 : Int32) (y3 : Int32) : Option (Bool × US) :=
  if 9 < y3 then (some (false, v_t)) else ((f_X11_has y2 y3).bind fun zr2 => if (b2i zr2) = 0 then (g23 v_t y1 y2 (y3 + 1)) else ((f_X6_leavesSome N v_t y1 y3).bind fun zr6 => if (b2i zr6.1) = 0 then (g23 zr6.2 y1 y2 (y3 + 1)) else (if y1 < 0 ∨ 5 ≤ y1.toNatClampNeg then none else ((grec (upa zr6.2 8 y1.toNatClampNeg y3) (y1 + 1)).bind fun zr11 => if (b2i zr11.1) = 0 then (g23 zr11.2 y1 y2 (y3 + 1)) else (some (true, zr11.2))))))
def f_X6_fitsFrom_23 (N : Nat) (grec : US → Int32 → Option (Bool × US))  : Nat → US → Int32 → Int32 → Int32 → Option (Bool × US)
  | 0 => fun _ _ _ _ => none
  | k + 1 => fun q0 q1 q2 q3 => b_X6_fitsFrom_23 N grec  (f_X6_fitsFrom_23 N grec  k) q0 q1 q2 q3
def b_X6_fitsFrom (N : Nat) (grec : US → Int32 → Option (Bool × US)) (v_t : US) (x1 : Int32) : Option (Bool × US) :=
  if x1 < (v_t.1 1) then (if ((x1 * 5) + x1) < 0 ∨ 25 ≤ ((x1 * 5) + x1).toNatClampNeg then none else (f_X6_fitsFrom_23 N grec N v_t x1 ((v_t.2.2 7) ((x1 * 5) + x1).toNatClampNeg) 0)) else (some (true, v_t))
def f_X6_fitsFrom (N : Nat) : Nat → US → Int32 → Option (Bool × US)
  | 0 => fun _ _ => none
  | k + 1 => fun q0 q1 => b_X6_fitsFrom N (f_X6_fitsFrom N k) q0 q1
set_option maxRecDepth 100000 in
set_option maxHeartbeats 4000000 in
theorem w_X6_fitsFrom_23 {p : Program} {l : Launch} {e : Env} {s : State} {m : MethodId} {args : Array Value} {below : List Frame} {meth : Method} {c : Code} {G : GG} {A : Nat → Prop} {o_t : Nat} {a_t : Nat → Nat} {dp : Nat} {N : Nat} {grec : US → Int32 → Option (Bool × US)} {g23 : US → Int32 → Int32 → Int32 → Option (Bool × US)} {v_t : US} {y1 : Int32} {y2 : Int32} {y3 : Int32} {res : Bool × US} (C : MC RX6 cX6_fitsFrom 4 (some .boolean) G A p s m args meth c) (hgrec : ∀ {v_t : US} {x1 : Int32} {res : Bool × US}, grec v_t x1 = some res → MI l yX6_fitsFrom cX6_fitsFrom 4 (some .boolean) (2 + dp) [.ref o_t, .int x1] G [uX6 G o_t a_t v_t] (b2i res.1) [uX6 G o_t a_t res.2]) (hg23 : ∀ {v_t : US} {y1 : Int32} {y2 : Int32} {y3 : Int32}, g23 v_t y1 y2 y3 = some res → ∀ {H : Heap} {locs : List Loc} {ls : Array Slot}, HP G A s [uX6 G o_t a_t v_t] H locs → lv_has ls 4 [(0, .ref o_t), (1, .int y1), (2, .int y2), (3, .int y3)] → W p l e (rmm (2 + (dp + 1))) s m args below meth c H locs 0 0 (QI below G A args s (b2i res.1) [uX6 G o_t a_t res.2]) (F0 m 23 ls [])) (hf : b_X6_fitsFrom_23 N grec g23 v_t y1 y2 y3 = some res) {H : Heap} {locs : List Loc} {ls : Array Slot} (h : HP G A s [uX6 G o_t a_t v_t] H locs) (hl : lv_has ls 4 [(0, .ref o_t), (1, .int y1), (2, .int y2), (3, .int y3)]) : W p l e (rmm (2 + (dp + 1))) s m args below meth c H locs 0 0 (QI below G A args s (b2i res.1) [uX6 G o_t a_t res.2]) (F0 m 23 ls []) := by
  unfold b_X6_fitsFrom_23 at hf
  refine lv_iload_n C.hx C.hb dX6_fitsFrom_23 rfl (lv_at hl 3 rfl) ?_
  refine lv_bipush (v := 9) C.hx C.hb dX6_fitsFrom_24 (by decide) ?_
  refine lv_icmp_gt (tgt := 74) C.hx C.hb dX6_fitsFrom_26 (by decide) (fun zc1 => ?_) (fun zc1 => ?_)
  · replace hf := it_t zc1 hf
    refine lv_iconst (v := 0) C.hx C.hb dX6_fitsFrom_74 (by decide) ?_
    obtain rfl := Option.some.inj hf
    exact g_ret_z (b := false) C h rfl rfl rfl dX6_fitsFrom_75
  · replace hf := it_f zc1 hf
    refine lv_iload_n C.hx C.hb dX6_fitsFrom_29 rfl (lv_at hl 2 rfl) ?_
    refine lv_iload_n C.hx C.hb dX6_fitsFrom_30 rfl (lv_at hl 3 rfl) ?_
    obtain ⟨zr2, zq3, hf⟩ := bd_some hf
    have zm4 := c_X11_has l G  (hf := zq3)
    refine g_goI C h zm4.1 (is := []) rfl rfl (g_runN C h (is := []) rfl rfl (As := [.int y2, .int y3]) (rest := []) (zm4.2 _) nf_X6_87 hl.1 rfl rfl (Nat.le_of_ble_eq_true rfl) dX6_fitsFrom_31 ⟨by simp only [rmm]; omega, by simp only [rmm]; omega⟩ ⟨Nat.le_refl _, Nat.le_refl _⟩) (us2 := [uX6 G o_t a_t v_t]) rfl (fun H locs h => ?_)
    refine lv_if_eq (tgt := 68) C.hx C.hb dX6_fitsFrom_34 (by decide) (fun zc5 => ?_) (fun zc5 => ?_)
    · replace hf := it_t zc5 hf
      refine lv_iinc (v := y3 + 1) (lv' := [(3, .int (y3 + 1)), (0, .ref o_t), (1, .int y1), (2, .int y2)]) C.hx C.hb dX6_fitsFrom_68 hl (k := 3) rfl rfl (by decide) rfl (fun ls hl => ?_)
      refine lv_goto (tgt := 23) C.hx C.hb dX6_fitsFrom_71 (by decide) ?_
      exact hg23 hf h (lv_sub hl [1, 2, 3, 0] rfl)
    · replace hf := it_f zc5 hf
      refine lv_aload_n C.hx C.hb dX6_fitsFrom_37 rfl (lv_at hl 0 rfl) ?_
      refine lv_iload_n C.hx C.hb dX6_fitsFrom_38 rfl (lv_at hl 1 rfl) ?_
      refine lv_iload_n C.hx C.hb dX6_fitsFrom_39 rfl (lv_at hl 3 rfl) ?_
      obtain ⟨zr6, zq7, hf⟩ := bd_some hf
      have zm8 := c_X6_leavesSome l G o_t a_t N (hf := zq7)
      refine g_goI C h zm8.1 (is := [0]) rfl rfl (g_runV C h (is := [0]) rfl rfl (As := [.int y1, .int y3]) (rest := []) (zm8.2 _) vf_X6_116 0 0 rfl rfl hl.1 rfl rfl (Nat.le_of_ble_eq_true rfl) dX6_fitsFrom_40 ⟨by simp only [rmm]; omega, by simp only [rmm]; omega⟩ ⟨Nat.le_refl _, Nat.le_refl _⟩) (us2 := [uX6 G o_t a_t zr6.2]) rfl (fun H locs h => ?_)
      refine lv_if_ne (tgt := 49) C.hx C.hb dX6_fitsFrom_43 (by decide) (fun zc9 => ?_) (fun zc9 => ?_)
      · replace hf := it_f zc9 hf
        refine lv_aload_n C.hx C.hb dX6_fitsFrom_49 rfl (lv_at hl 0 rfl) ?_
        refine g_get C h fl_X6_35 0 0 rfl rfl (v := .ref (a_t 8)) rfl dX6_fitsFrom_50 ?_
        refine lv_iload_n C.hx C.hb dX6_fitsFrom_53 rfl (lv_at hl 1 rfl) ?_
        refine lv_iload_n C.hx C.hb dX6_fitsFrom_54 rfl (lv_at hl 3 rfl) ?_
        obtain ⟨zi10, hf⟩ := ck_some hf
        refine g_iast C h 0 6 rfl rfl (f := zr6.2.2.2 8) zi10 dX6_fitsFrom_55 (u' := uX6 G o_t a_t (upa zr6.2 8 y1.toNatClampNeg y3)) (us' := [uX6 G o_t a_t (upa zr6.2 8 y1.toNatClampNeg y3)]) rfl rfl (fun H locs h => ?_)
        refine lv_aload_n C.hx C.hb dX6_fitsFrom_56 rfl (lv_at hl 0 rfl) ?_
        refine lv_iload_n C.hx C.hb dX6_fitsFrom_57 rfl (lv_at hl 1 rfl) ?_
        refine lv_iconst (v := 1) C.hx C.hb dX6_fitsFrom_58 (by decide) ?_
        refine lv_iadd C.hx C.hb dX6_fitsFrom_59 ?_
        obtain ⟨zr11, zq12, hf⟩ := bd_some hf
        have zm13 := hgrec zq12
        refine g_goI C h zm13.1 (is := [0]) rfl rfl (g_runV C h (is := [0]) rfl rfl (As := [.int (y1 + 1)]) (rest := []) (zm13.2 _) vf_X6_110 0 0 rfl rfl hl.1 rfl rfl (Nat.le_of_ble_eq_true rfl) dX6_fitsFrom_60 ⟨by simp only [rmm]; omega, by simp only [rmm]; omega⟩ ⟨Nat.le_refl _, Nat.le_refl _⟩) (us2 := [uX6 G o_t a_t zr11.2]) rfl (fun H locs h => ?_)
        refine lv_if_eq (tgt := 68) C.hx C.hb dX6_fitsFrom_63 (by decide) (fun zc14 => ?_) (fun zc14 => ?_)
        · replace hf := it_t zc14 hf
          refine lv_iinc (v := y3 + 1) (lv' := [(3, .int (y3 + 1)), (0, .ref o_t), (1, .int y1), (2, .int y2)]) C.hx C.hb dX6_fitsFrom_68 hl (k := 3) rfl rfl (by decide) rfl (fun ls hl => ?_)
          refine lv_goto (tgt := 23) C.hx C.hb dX6_fitsFrom_71 (by decide) ?_
          exact hg23 hf h (lv_sub hl [1, 2, 3, 0] rfl)
        · replace hf := it_f zc14 hf
          refine lv_iconst (v := 1) C.hx C.hb dX6_fitsFrom_66 (by decide) ?_
          obtain rfl := Option.some.inj hf
          exact g_ret_z (b := true) C h rfl rfl rfl dX6_fitsFrom_67
      · replace hf := it_t zc9 hf
        refine lv_goto (tgt := 68) C.hx C.hb dX6_fitsFrom_46 (by decide) ?_
        refine lv_iinc (v := y3 + 1) (lv' := [(3, .int (y3 + 1)), (0, .ref o_t), (1, .int y1), (2, .int y2)]) C.hx C.hb dX6_fitsFrom_68 hl (k := 3) rfl rfl (by decide) rfl (fun ls hl => ?_)
        refine lv_goto (tgt := 23) C.hx C.hb dX6_fitsFrom_71 (by decide) ?_
        exact hg23 hf h (lv_sub hl [1, 2, 3, 0] rfl)
set_option maxRecDepth 100000 in
set_option maxHeartbeats 4000000 in
theorem l_X6_fitsFrom_23 {p : Program} {l : Launch} {e : Env} {s : State} {m : MethodId} {args : Array Value} {below : List Frame} {meth : Method} {c : Code} {G : GG} {A : Nat → Prop} {o_t : Nat} {a_t : Nat → Nat} {dp : Nat} {N : Nat} {grec : US → Int32 → Option (Bool × US)}  {res : Bool × US} (C : MC RX6 cX6_fitsFrom 4 (some .boolean) G A p s m args meth c) (hgrec : ∀ {v_t : US} {x1 : Int32} {res : Bool × US}, grec v_t x1 = some res → MI l yX6_fitsFrom cX6_fitsFrom 4 (some .boolean) (2 + dp) [.ref o_t, .int x1] G [uX6 G o_t a_t v_t] (b2i res.1) [uX6 G o_t a_t res.2])  : ∀ (k : Nat) {v_t : US} {y1 : Int32} {y2 : Int32} {y3 : Int32}, f_X6_fitsFrom_23 N grec k v_t y1 y2 y3 = some res → ∀ {H : Heap} {locs : List Loc} {ls : Array Slot}, HP G A s [uX6 G o_t a_t v_t] H locs → lv_has ls 4 [(0, .ref o_t), (1, .int y1), (2, .int y2), (3, .int y3)] → W p l e (rmm (2 + (dp + 1))) s m args below meth c H locs 0 0 (QI below G A args s (b2i res.1) [uX6 G o_t a_t res.2]) (F0 m 23 ls []) := by
  intro k
  induction k with
  | zero => intros; contradiction
  | succ k ih =>
    intro v_t y1 y2 y3 hf H locs ls h hl
    exact w_X6_fitsFrom_23 (N := N) C hgrec ih hf h hl
set_option maxRecDepth 100000 in
set_option maxHeartbeats 4000000 in
theorem c_X6_fitsFrom (l : Launch) (G : GG) (o_t : Nat) (a_t : Nat → Nat) (N : Nat) : ∀ (dp : Nat) {v_t : US} {x1 : Int32} {res : Bool × US}, f_X6_fitsFrom N dp v_t x1 = some res → MI l yX6_fitsFrom cX6_fitsFrom 4 (some .boolean) (2 + dp) [.ref o_t, .int x1] G [uX6 G o_t a_t v_t] (b2i res.1) [uX6 G o_t a_t res.2] := by
  intro dp
  induction dp with
  | zero => intros; contradiction
  | succ dp ih =>
    intro v_t x1 res hf
    have hf : b_X6_fitsFrom N (f_X6_fitsFrom N dp) v_t x1 = some res := hf
    have hgrec := @ih
    unfold b_X6_fitsFrom at hf
    refine MI.intro (by decide) rfl (Nat.le_of_ble_eq_true rfl) (fun p e s m args below meth c A ls C h hl => ?_)
    have C : MC RX6 cX6_fitsFrom 4 (some .boolean) G A p s m args meth c := C
    have hl : lv_has ls 4 [(0, .ref o_t), (1, .int x1)] := hl
    refine lv_iload_n C.hx C.hb dX6_fitsFrom_0 rfl (lv_at hl 1 rfl) ?_
    refine lv_aload_n C.hx C.hb dX6_fitsFrom_1 rfl (lv_at hl 0 rfl) ?_
    refine g_get C h fl_X6_11 0 0 rfl rfl (v := .int (v_t.1 1)) rfl dX6_fitsFrom_2 ?_
    refine lv_icmp_lt (tgt := 10) C.hx C.hb dX6_fitsFrom_5 (by decide) (fun zc1 => ?_) (fun zc1 => ?_)
    · replace hf := it_t zc1 hf
      refine lv_aload_n C.hx C.hb dX6_fitsFrom_10 rfl (lv_at hl 0 rfl) ?_
      refine g_get C h fl_X6_32 0 0 rfl rfl (v := .ref (a_t 7)) rfl dX6_fitsFrom_11 ?_
      refine lv_iload_n C.hx C.hb dX6_fitsFrom_14 rfl (lv_at hl 1 rfl) ?_
      refine lv_iconst (v := 5) C.hx C.hb dX6_fitsFrom_15 (by decide) ?_
      refine lv_imul C.hx C.hb dX6_fitsFrom_16 ?_
      refine lv_iload_n C.hx C.hb dX6_fitsFrom_17 rfl (lv_at hl 1 rfl) ?_
      refine lv_iadd C.hx C.hb dX6_fitsFrom_18 ?_
      obtain ⟨zi2, hf⟩ := ck_some hf
      refine g_iald C h 0 5 rfl rfl (f := v_t.2.2 7) zi2 dX6_fitsFrom_19 ?_
      refine lv_istore_n (lv' := [(2, .int ((v_t.2.2 7) ((x1 * 5) + x1).toNatClampNeg)), (0, .ref o_t), (1, .int x1)]) C.hx C.hb dX6_fitsFrom_20 rfl hl (by decide) rfl (fun ls hl => ?_)
      refine lv_iconst (v := 0) C.hx C.hb dX6_fitsFrom_21 (by decide) ?_
      refine lv_istore_n (lv' := [(3, .int 0), (2, .int ((v_t.2.2 7) ((x1 * 5) + x1).toNatClampNeg)), (0, .ref o_t), (1, .int x1)]) C.hx C.hb dX6_fitsFrom_22 rfl hl (by decide) rfl (fun ls hl => ?_)
      exact l_X6_fitsFrom_23 C hgrec N hf h (lv_sub hl [2, 3, 1, 0] rfl)
    · replace hf := it_f zc1 hf
      refine lv_iconst (v := 1) C.hx C.hb dX6_fitsFrom_8 (by decide) ?_
      obtain rfl := Option.some.inj hf
      exact g_ret_z (b := true) C h rfl rfl rfl dX6_fitsFrom_9

def b_X6_narrowPairs_9 (N : Nat) (g9 : US → Int32 → Int32 → Int32 → Option (US)) (v_t : US) (y1 : Int32) (y2 : Int32) (y3 : Int32) : Option (US) :=
  if (v_t.1 1) ≤ y3 then (some (v_t)) else (if y3 = y2 then (g9 v_t y1 y2 (y3 + 1)) else (if ((y1 * 5) + y3) < 0 ∨ 20 ≤ ((y1 * 5) + y3).toNatClampNeg then none else (if ((y2 * 5) + y3) < 0 ∨ 25 ≤ ((y2 * 5) + y3).toNatClampNeg then none else (if ((y2 * 5) + y3) < 0 ∨ 25 ≤ ((y2 * 5) + y3).toNatClampNeg then none else (if ((y3 * 5) + y2) < 0 ∨ 25 ≤ ((y3 * 5) + y2).toNatClampNeg then none else (bnd (upa v_t 6 (((y2 * 5) + y3).toNatClampNeg) (((v_t.2.2 6) ((y2 * 5) + y3).toNatClampNeg) &&& ((v_t.2.2 5) ((y1 * 5) + y3).toNatClampNeg))) fun zw7 => if ((y3 * 5) + y2) < 0 ∨ 25 ≤ ((y3 * 5) + y2).toNatClampNeg then none else (g9 (upa zw7 6 (((y3 * 5) + y2).toNatClampNeg) (((upd (v_t.2.2 6) (((y2 * 5) + y3).toNatClampNeg) (((v_t.2.2 6) ((y2 * 5) + y3).toNatClampNeg) &&& ((v_t.2.2 5) ((y1 * 5) + y3).toNatClampNeg))) ((y3 * 5) + y2).toNatClampNeg) &&& ((v_t.2.2 5) ((y1 * 5) + y3).toNatClampNeg))) y1 y2 (y3 + 1))))))))
def f_X6_narrowPairs_9 (N : Nat)  : Nat → US → Int32 → Int32 → Int32 → Option (US)
  | 0 => fun _ _ _ _ => none
  | k + 1 => fun q0 q1 q2 q3 => b_X6_narrowPairs_9 N  (f_X6_narrowPairs_9 N  k) q0 q1 q2 q3
def f_X6_narrowPairs (N : Nat) (v_t : US) (x1 : Int32) : Option (US) :=
  if x1 < 0 ∨ 4 ≤ x1.toNatClampNeg then none else (f_X6_narrowPairs_9 N N v_t x1 ((v_t.2.2 3) x1.toNatClampNeg) 0)
set_option maxRecDepth 100000 in
set_option maxHeartbeats 4000000 in
theorem w_X6_narrowPairs_9 {p : Program} {l : Launch} {e : Env} {s : State} {m : MethodId} {args : Array Value} {below : List Frame} {meth : Method} {c : Code} {G : GG} {A : Nat → Prop} {o_t : Nat} {a_t : Nat → Nat} {N : Nat} {g9 : US → Int32 → Int32 → Int32 → Option (US)} {v_t : US} {y1 : Int32} {y2 : Int32} {y3 : Int32} {res : US} (C : MC RX6 cX6_narrowPairs 5 none G A p s m args meth c) (hg9 : ∀ {v_t : US} {y1 : Int32} {y2 : Int32} {y3 : Int32}, g9 v_t y1 y2 y3 = some res → ∀ {H : Heap} {locs : List Loc} {ls : Array Slot}, HP G A s [uX6 G o_t a_t v_t] H locs → lv_has ls 5 [(0, .ref o_t), (1, .int y1), (2, .int y2), (3, .int y3)] → W p l e (rmm 1) s m args below meth c H locs 0 0 (QV below G A args s  [uX6 G o_t a_t res]) (F0 m 9 ls [])) (hf : b_X6_narrowPairs_9 N g9 v_t y1 y2 y3 = some res) {H : Heap} {locs : List Loc} {ls : Array Slot} (h : HP G A s [uX6 G o_t a_t v_t] H locs) (hl : lv_has ls 5 [(0, .ref o_t), (1, .int y1), (2, .int y2), (3, .int y3)]) : W p l e (rmm 1) s m args below meth c H locs 0 0 (QV below G A args s  [uX6 G o_t a_t res]) (F0 m 9 ls []) := by
  unfold b_X6_narrowPairs_9 at hf
  refine lv_iload_n C.hx C.hb dX6_narrowPairs_9 rfl (lv_at hl 3 rfl) ?_
  refine lv_aload_n C.hx C.hb dX6_narrowPairs_10 rfl (lv_at hl 0 rfl) ?_
  refine g_get C h fl_X6_11 0 0 rfl rfl (v := .int (v_t.1 1)) rfl dX6_narrowPairs_11 ?_
  refine lv_icmp_ge (tgt := 73) C.hx C.hb dX6_narrowPairs_14 (by decide) (fun zc1 => ?_) (fun zc1 => ?_)
  · replace hf := it_t zc1 hf
    obtain rfl := Option.some.inj hf
    exact g_ret_v C h rfl dX6_narrowPairs_73
  · replace hf := it_f zc1 hf
    refine lv_iload_n C.hx C.hb dX6_narrowPairs_17 rfl (lv_at hl 3 rfl) ?_
    refine lv_iload_n C.hx C.hb dX6_narrowPairs_18 rfl (lv_at hl 2 rfl) ?_
    refine lv_icmp_ne (tgt := 25) C.hx C.hb dX6_narrowPairs_19 (by decide) (fun zc2 => ?_) (fun zc2 => ?_)
    · replace hf := it_f zc2 hf
      refine lv_aload_n C.hx C.hb dX6_narrowPairs_25 rfl (lv_at hl 0 rfl) ?_
      refine g_get C h fl_X6_26 0 0 rfl rfl (v := .ref (a_t 5)) rfl dX6_narrowPairs_26 ?_
      refine lv_iload_n C.hx C.hb dX6_narrowPairs_29 rfl (lv_at hl 1 rfl) ?_
      refine lv_iconst (v := 5) C.hx C.hb dX6_narrowPairs_30 (by decide) ?_
      refine lv_imul C.hx C.hb dX6_narrowPairs_31 ?_
      refine lv_iload_n C.hx C.hb dX6_narrowPairs_32 rfl (lv_at hl 3 rfl) ?_
      refine lv_iadd C.hx C.hb dX6_narrowPairs_33 ?_
      obtain ⟨zi3, hf⟩ := ck_some hf
      refine g_iald C h 0 3 rfl rfl (f := v_t.2.2 5) zi3 dX6_narrowPairs_34 ?_
      refine lv_istore (lv' := [(4, .int ((v_t.2.2 5) ((y1 * 5) + y3).toNatClampNeg)), (0, .ref o_t), (1, .int y1), (2, .int y2), (3, .int y3)]) C.hx C.hb dX6_narrowPairs_35 hl (by decide) rfl (fun ls hl => ?_)
      refine lv_aload_n C.hx C.hb dX6_narrowPairs_37 rfl (lv_at hl 1 rfl) ?_
      refine g_get C h fl_X6_29 0 0 rfl rfl (v := .ref (a_t 6)) rfl dX6_narrowPairs_38 ?_
      refine lv_iload_n C.hx C.hb dX6_narrowPairs_41 rfl (lv_at hl 3 rfl) ?_
      refine lv_iconst (v := 5) C.hx C.hb dX6_narrowPairs_42 (by decide) ?_
      refine lv_imul C.hx C.hb dX6_narrowPairs_43 ?_
      refine lv_iload_n C.hx C.hb dX6_narrowPairs_44 rfl (lv_at hl 4 rfl) ?_
      refine lv_iadd C.hx C.hb dX6_narrowPairs_45 ?_
      refine lv_dup2_11 C.hx C.hb dX6_narrowPairs_46 rfl rfl ?_
      obtain ⟨zi4, hf⟩ := ck_some hf
      refine g_iald C h 0 4 rfl rfl (f := v_t.2.2 6) zi4 dX6_narrowPairs_47 ?_
      refine lv_iload C.hx C.hb dX6_narrowPairs_48 (lv_at hl 0 rfl) ?_
      refine lv_iand C.hx C.hb dX6_narrowPairs_50 ?_
      obtain ⟨zi5, hf⟩ := ck_some hf
      refine g_iast C h 0 4 rfl rfl (f := v_t.2.2 6) zi5 dX6_narrowPairs_51 (u' := uX6 G o_t a_t (upa v_t 6 (((y2 * 5) + y3).toNatClampNeg) (((v_t.2.2 6) ((y2 * 5) + y3).toNatClampNeg) &&& ((v_t.2.2 5) ((y1 * 5) + y3).toNatClampNeg)))) (us' := [uX6 G o_t a_t (upa v_t 6 (((y2 * 5) + y3).toNatClampNeg) (((v_t.2.2 6) ((y2 * 5) + y3).toNatClampNeg) &&& ((v_t.2.2 5) ((y1 * 5) + y3).toNatClampNeg)))]) rfl rfl (fun H locs h => ?_)
      refine lv_aload_n C.hx C.hb dX6_narrowPairs_52 rfl (lv_at hl 1 rfl) ?_
      refine g_get C h fl_X6_29 0 0 rfl rfl (v := .ref (a_t 6)) rfl dX6_narrowPairs_53 ?_
      refine lv_iload_n C.hx C.hb dX6_narrowPairs_56 rfl (lv_at hl 4 rfl) ?_
      refine lv_iconst (v := 5) C.hx C.hb dX6_narrowPairs_57 (by decide) ?_
      refine lv_imul C.hx C.hb dX6_narrowPairs_58 ?_
      refine lv_iload_n C.hx C.hb dX6_narrowPairs_59 rfl (lv_at hl 3 rfl) ?_
      refine lv_iadd C.hx C.hb dX6_narrowPairs_60 ?_
      refine lv_dup2_11 C.hx C.hb dX6_narrowPairs_61 rfl rfl ?_
      obtain ⟨zi6, hf⟩ := ck_some hf
      refine g_iald C h 0 4 rfl rfl (f := upd (v_t.2.2 6) (((y2 * 5) + y3).toNatClampNeg) (((v_t.2.2 6) ((y2 * 5) + y3).toNatClampNeg) &&& ((v_t.2.2 5) ((y1 * 5) + y3).toNatClampNeg))) zi6 dX6_narrowPairs_62 ?_
      refine lv_iload C.hx C.hb dX6_narrowPairs_63 (lv_at hl 0 rfl) ?_
      refine lv_iand C.hx C.hb dX6_narrowPairs_65 ?_
      obtain ⟨zw7, hzw7, hf⟩ := bnd_some hf
      rw [← hzw7] at h
      obtain ⟨zi8, hf⟩ := ck_some hf
      refine g_iast C h 0 4 rfl rfl (f := zw7.2.2 6) zi8 dX6_narrowPairs_66 (u' := uX6 G o_t a_t (upa zw7 6 (((y3 * 5) + y2).toNatClampNeg) (((upd (v_t.2.2 6) (((y2 * 5) + y3).toNatClampNeg) (((v_t.2.2 6) ((y2 * 5) + y3).toNatClampNeg) &&& ((v_t.2.2 5) ((y1 * 5) + y3).toNatClampNeg))) ((y3 * 5) + y2).toNatClampNeg) &&& ((v_t.2.2 5) ((y1 * 5) + y3).toNatClampNeg)))) (us' := [uX6 G o_t a_t (upa zw7 6 (((y3 * 5) + y2).toNatClampNeg) (((upd (v_t.2.2 6) (((y2 * 5) + y3).toNatClampNeg) (((v_t.2.2 6) ((y2 * 5) + y3).toNatClampNeg) &&& ((v_t.2.2 5) ((y1 * 5) + y3).toNatClampNeg))) ((y3 * 5) + y2).toNatClampNeg) &&& ((v_t.2.2 5) ((y1 * 5) + y3).toNatClampNeg)))]) rfl rfl (fun H locs h => ?_)
      refine lv_iinc (v := y3 + 1) (lv' := [(3, .int (y3 + 1)), (4, .int ((v_t.2.2 5) ((y1 * 5) + y3).toNatClampNeg)), (0, .ref o_t), (1, .int y1), (2, .int y2)]) C.hx C.hb dX6_narrowPairs_67 hl (k := 4) rfl rfl (by decide) rfl (fun ls hl => ?_)
      refine lv_goto (tgt := 9) C.hx C.hb dX6_narrowPairs_70 (by decide) ?_
      exact hg9 hf h (lv_sub hl [2, 3, 4, 0] rfl)
    · replace hf := it_t zc2 hf
      refine lv_goto (tgt := 67) C.hx C.hb dX6_narrowPairs_22 (by decide) ?_
      refine lv_iinc (v := y3 + 1) (lv' := [(3, .int (y3 + 1)), (0, .ref o_t), (1, .int y1), (2, .int y2)]) C.hx C.hb dX6_narrowPairs_67 hl (k := 3) rfl rfl (by decide) rfl (fun ls hl => ?_)
      refine lv_goto (tgt := 9) C.hx C.hb dX6_narrowPairs_70 (by decide) ?_
      exact hg9 hf h (lv_sub hl [1, 2, 3, 0] rfl)
set_option maxRecDepth 100000 in
set_option maxHeartbeats 4000000 in
theorem l_X6_narrowPairs_9 {p : Program} {l : Launch} {e : Env} {s : State} {m : MethodId} {args : Array Value} {below : List Frame} {meth : Method} {c : Code} {G : GG} {A : Nat → Prop} {o_t : Nat} {a_t : Nat → Nat} {N : Nat}  {res : US} (C : MC RX6 cX6_narrowPairs 5 none G A p s m args meth c)  : ∀ (k : Nat) {v_t : US} {y1 : Int32} {y2 : Int32} {y3 : Int32}, f_X6_narrowPairs_9 N k v_t y1 y2 y3 = some res → ∀ {H : Heap} {locs : List Loc} {ls : Array Slot}, HP G A s [uX6 G o_t a_t v_t] H locs → lv_has ls 5 [(0, .ref o_t), (1, .int y1), (2, .int y2), (3, .int y3)] → W p l e (rmm 1) s m args below meth c H locs 0 0 (QV below G A args s  [uX6 G o_t a_t res]) (F0 m 9 ls []) := by
  intro k
  induction k with
  | zero => intros; contradiction
  | succ k ih =>
    intro v_t y1 y2 y3 hf H locs ls h hl
    exact w_X6_narrowPairs_9 (N := N) C ih hf h hl
set_option maxRecDepth 100000 in
set_option maxHeartbeats 4000000 in
theorem c_X6_narrowPairs (l : Launch) (G : GG) (o_t : Nat) (a_t : Nat → Nat) (N : Nat) {v_t : US} {x1 : Int32} {res : US} (hf : f_X6_narrowPairs N v_t x1 = some res) : MV l yX6_narrowPairs cX6_narrowPairs 5 none 1 [.ref o_t, .int x1] G [uX6 G o_t a_t v_t]  [uX6 G o_t a_t res] := by
  unfold f_X6_narrowPairs at hf
  refine MV.intro (by decide) rfl (Nat.le_of_ble_eq_true rfl) (fun p e s m args below meth c A ls C h hl => ?_)
  have C : MC RX6 cX6_narrowPairs 5 none G A p s m args meth c := C
  have hl : lv_has ls 5 [(0, .ref o_t), (1, .int x1)] := hl
  refine lv_aload_n C.hx C.hb dX6_narrowPairs_0 rfl (lv_at hl 0 rfl) ?_
  refine g_get C h fl_X6_18 0 0 rfl rfl (v := .ref (a_t 3)) rfl dX6_narrowPairs_1 ?_
  refine lv_iload_n C.hx C.hb dX6_narrowPairs_4 rfl (lv_at hl 1 rfl) ?_
  obtain ⟨zi1, hf⟩ := ck_some hf
  refine g_iald C h 0 1 rfl rfl (f := v_t.2.2 3) zi1 dX6_narrowPairs_5 ?_
  refine lv_istore_n (lv' := [(2, .int ((v_t.2.2 3) x1.toNatClampNeg)), (0, .ref o_t), (1, .int x1)]) C.hx C.hb dX6_narrowPairs_6 rfl hl (by decide) rfl (fun ls hl => ?_)
  refine lv_iconst (v := 0) C.hx C.hb dX6_narrowPairs_7 (by decide) ?_
  refine lv_istore_n (lv' := [(3, .int 0), (2, .int ((v_t.2.2 3) x1.toNatClampNeg)), (0, .ref o_t), (1, .int x1)]) C.hx C.hb dX6_narrowPairs_8 rfl hl (by decide) rfl (fun ls hl => ?_)
  exact l_X6_narrowPairs_9 C N hf h (lv_sub hl [2, 3, 1, 0] rfl)

def b_X6_fittedBySome_40 (N : Nat) (g9 : US → Int32 → Int32 → Int32 → Option (Int32)) (g40 : US → Int32 → Int32 → Int32 → Int32 → Int32 → Option (Int32)) (v_t : US) (y1 : Int32) (y2 : Int32) (y3 : Int32) (y4 : Int32) (y5 : Int32) : Option (Int32) :=
  if 9 < y5 then (g9 v_t y1 y2 (y3 + 1)) else (if y3 < 0 ∨ 25 ≤ y3.toNatClampNeg then none else (if ((y4 >>> (y5 &&& 31)) &&& ((v_t.2.2 7) y3.toNatClampNeg)) = 0 then (g40 v_t y1 (y2 &&& ((1 <<< (y5 &&& 31)) ^^^ (-1))) y3 y4 (y5 + 1)) else (g40 v_t y1 y2 y3 y4 (y5 + 1))))
def f_X6_fittedBySome_40 (N : Nat) (g9 : US → Int32 → Int32 → Int32 → Option (Int32)) : Nat → US → Int32 → Int32 → Int32 → Int32 → Int32 → Option (Int32)
  | 0 => fun _ _ _ _ _ _ => none
  | k + 1 => fun q0 q1 q2 q3 q4 q5 => b_X6_fittedBySome_40 N g9 (f_X6_fittedBySome_40 N g9 k) q0 q1 q2 q3 q4 q5
def b_X6_fittedBySome_9 (N : Nat) (g9 : US → Int32 → Int32 → Int32 → Option (Int32)) (v_t : US) (y1 : Int32) (y2 : Int32) (y3 : Int32) : Option (Int32) :=
  if (v_t.1 1) ≤ y3 then (some (y2)) else (if y3 = y1 then (g9 v_t y1 y2 (y3 + 1)) else (if ((y1 * 5) + y3) < 0 ∨ 25 ≤ ((y1 * 5) + y3).toNatClampNeg then none else (f_X6_fittedBySome_40 N g9 N v_t y1 y2 y3 ((v_t.2.2 6) ((y1 * 5) + y3).toNatClampNeg) 0)))
def f_X6_fittedBySome_9 (N : Nat)  : Nat → US → Int32 → Int32 → Int32 → Option (Int32)
  | 0 => fun _ _ _ _ => none
  | k + 1 => fun q0 q1 q2 q3 => b_X6_fittedBySome_9 N  (f_X6_fittedBySome_9 N  k) q0 q1 q2 q3
def f_X6_fittedBySome (N : Nat) (v_t : US) (x1 : Int32) : Option (Int32) :=
  if x1 < 0 ∨ 25 ≤ x1.toNatClampNeg then none else (f_X6_fittedBySome_9 N N v_t x1 ((v_t.2.2 7) x1.toNatClampNeg) 0)
set_option maxRecDepth 100000 in
set_option maxHeartbeats 4000000 in
theorem w_X6_fittedBySome_40 {p : Program} {l : Launch} {e : Env} {s : State} {m : MethodId} {args : Array Value} {below : List Frame} {meth : Method} {c : Code} {G : GG} {A : Nat → Prop} {o_t : Nat} {a_t : Nat → Nat} {N : Nat} {g9 : US → Int32 → Int32 → Int32 → Option (Int32)} {g40 : US → Int32 → Int32 → Int32 → Int32 → Int32 → Option (Int32)} {v_t : US} {y1 : Int32} {y2 : Int32} {y3 : Int32} {y4 : Int32} {y5 : Int32} {res : Int32} (C : MC RX6 cX6_fittedBySome 6 (some .int) G A p s m args meth c) (hg9 : ∀ {v_t : US} {y1 : Int32} {y2 : Int32} {y3 : Int32}, g9 v_t y1 y2 y3 = some res → ∀ {H : Heap} {locs : List Loc} {ls : Array Slot}, HP G A s [uX6 G o_t a_t v_t] H locs → lv_has ls 6 [(0, .ref o_t), (1, .int y1), (2, .int y2), (3, .int y3)] → W p l e (rmm 1) s m args below meth c H locs 0 0 (QI below G A args s res [uX6 G o_t a_t v_t]) (F0 m 9 ls [])) (hg40 : ∀ {v_t : US} {y1 : Int32} {y2 : Int32} {y3 : Int32} {y4 : Int32} {y5 : Int32}, g40 v_t y1 y2 y3 y4 y5 = some res → ∀ {H : Heap} {locs : List Loc} {ls : Array Slot}, HP G A s [uX6 G o_t a_t v_t] H locs → lv_has ls 6 [(0, .ref o_t), (1, .int y1), (2, .int y2), (3, .int y3), (4, .int y4), (5, .int y5)] → W p l e (rmm 1) s m args below meth c H locs 0 0 (QI below G A args s res [uX6 G o_t a_t v_t]) (F0 m 40 ls [])) (hf : b_X6_fittedBySome_40 N g9 g40 v_t y1 y2 y3 y4 y5 = some res) {H : Heap} {locs : List Loc} {ls : Array Slot} (h : HP G A s [uX6 G o_t a_t v_t] H locs) (hl : lv_has ls 6 [(0, .ref o_t), (1, .int y1), (2, .int y2), (3, .int y3), (4, .int y4), (5, .int y5)]) : W p l e (rmm 1) s m args below meth c H locs 0 0 (QI below G A args s res [uX6 G o_t a_t v_t]) (F0 m 40 ls []) := by
  unfold b_X6_fittedBySome_40 at hf
  refine lv_iload C.hx C.hb dX6_fittedBySome_40 (lv_at hl 5 rfl) ?_
  refine lv_bipush (v := 9) C.hx C.hb dX6_fittedBySome_42 (by decide) ?_
  refine lv_icmp_gt (tgt := 77) C.hx C.hb dX6_fittedBySome_44 (by decide) (fun zc1 => ?_) (fun zc1 => ?_)
  · replace hf := it_t zc1 hf
    refine lv_iinc (v := y3 + 1) (lv' := [(3, .int (y3 + 1)), (0, .ref o_t), (1, .int y1), (2, .int y2), (4, .int y4), (5, .int y5)]) C.hx C.hb dX6_fittedBySome_77 hl (k := 3) rfl rfl (by decide) rfl (fun ls hl => ?_)
    refine lv_goto (tgt := 9) C.hx C.hb dX6_fittedBySome_80 (by decide) ?_
    exact hg9 hf h (lv_sub hl [1, 2, 3, 0] rfl)
  · replace hf := it_f zc1 hf
    refine lv_iload C.hx C.hb dX6_fittedBySome_47 (lv_at hl 4 rfl) ?_
    refine lv_iload C.hx C.hb dX6_fittedBySome_49 (lv_at hl 5 rfl) ?_
    refine lv_ishr C.hx C.hb dX6_fittedBySome_51 ?_
    refine lv_aload_n C.hx C.hb dX6_fittedBySome_52 rfl (lv_at hl 0 rfl) ?_
    refine g_get C h fl_X6_32 0 0 rfl rfl (v := .ref (a_t 7)) rfl dX6_fittedBySome_53 ?_
    refine lv_iload_n C.hx C.hb dX6_fittedBySome_56 rfl (lv_at hl 3 rfl) ?_
    obtain ⟨zi2, hf⟩ := ck_some hf
    refine g_iald C h 0 5 rfl rfl (f := v_t.2.2 7) zi2 dX6_fittedBySome_57 ?_
    refine lv_iand C.hx C.hb dX6_fittedBySome_58 ?_
    refine lv_if_ne (tgt := 71) C.hx C.hb dX6_fittedBySome_59 (by decide) (fun zc3 => ?_) (fun zc3 => ?_)
    · replace hf := it_f zc3 hf
      refine lv_iinc (v := y5 + 1) (lv' := [(5, .int (y5 + 1)), (0, .ref o_t), (1, .int y1), (2, .int y2), (3, .int y3), (4, .int y4)]) C.hx C.hb dX6_fittedBySome_71 hl (k := 5) rfl rfl (by decide) rfl (fun ls hl => ?_)
      refine lv_goto (tgt := 40) C.hx C.hb dX6_fittedBySome_74 (by decide) ?_
      exact hg40 hf h (lv_sub hl [1, 2, 3, 4, 5, 0] rfl)
    · replace hf := it_t zc3 hf
      refine lv_iload_n C.hx C.hb dX6_fittedBySome_62 rfl (lv_at hl 2 rfl) ?_
      refine lv_iconst (v := 1) C.hx C.hb dX6_fittedBySome_63 (by decide) ?_
      refine lv_iload C.hx C.hb dX6_fittedBySome_64 (lv_at hl 5 rfl) ?_
      refine lv_ishl C.hx C.hb dX6_fittedBySome_66 ?_
      refine lv_iconst (v := (-1)) C.hx C.hb dX6_fittedBySome_67 (by decide) ?_
      refine lv_ixor C.hx C.hb dX6_fittedBySome_68 ?_
      refine lv_iand C.hx C.hb dX6_fittedBySome_69 ?_
      refine lv_istore_n (lv' := [(2, .int (y2 &&& ((1 <<< (y5 &&& 31)) ^^^ (-1)))), (0, .ref o_t), (1, .int y1), (3, .int y3), (4, .int y4), (5, .int y5)]) C.hx C.hb dX6_fittedBySome_70 rfl hl (by decide) rfl (fun ls hl => ?_)
      refine lv_iinc (v := y5 + 1) (lv' := [(5, .int (y5 + 1)), (2, .int (y2 &&& ((1 <<< (y5 &&& 31)) ^^^ (-1)))), (0, .ref o_t), (1, .int y1), (3, .int y3), (4, .int y4)]) C.hx C.hb dX6_fittedBySome_71 hl (k := 5) rfl rfl (by decide) rfl (fun ls hl => ?_)
      refine lv_goto (tgt := 40) C.hx C.hb dX6_fittedBySome_74 (by decide) ?_
      exact hg40 hf h (lv_sub hl [2, 3, 1, 4, 5, 0] rfl)
set_option maxRecDepth 100000 in
set_option maxHeartbeats 4000000 in
theorem l_X6_fittedBySome_40 {p : Program} {l : Launch} {e : Env} {s : State} {m : MethodId} {args : Array Value} {below : List Frame} {meth : Method} {c : Code} {G : GG} {A : Nat → Prop} {o_t : Nat} {a_t : Nat → Nat} {N : Nat} {g9 : US → Int32 → Int32 → Int32 → Option (Int32)} {res : Int32} (C : MC RX6 cX6_fittedBySome 6 (some .int) G A p s m args meth c) (hg9 : ∀ {v_t : US} {y1 : Int32} {y2 : Int32} {y3 : Int32}, g9 v_t y1 y2 y3 = some res → ∀ {H : Heap} {locs : List Loc} {ls : Array Slot}, HP G A s [uX6 G o_t a_t v_t] H locs → lv_has ls 6 [(0, .ref o_t), (1, .int y1), (2, .int y2), (3, .int y3)] → W p l e (rmm 1) s m args below meth c H locs 0 0 (QI below G A args s res [uX6 G o_t a_t v_t]) (F0 m 9 ls [])) : ∀ (k : Nat) {v_t : US} {y1 : Int32} {y2 : Int32} {y3 : Int32} {y4 : Int32} {y5 : Int32}, f_X6_fittedBySome_40 N g9 k v_t y1 y2 y3 y4 y5 = some res → ∀ {H : Heap} {locs : List Loc} {ls : Array Slot}, HP G A s [uX6 G o_t a_t v_t] H locs → lv_has ls 6 [(0, .ref o_t), (1, .int y1), (2, .int y2), (3, .int y3), (4, .int y4), (5, .int y5)] → W p l e (rmm 1) s m args below meth c H locs 0 0 (QI below G A args s res [uX6 G o_t a_t v_t]) (F0 m 40 ls []) := by
  intro k
  induction k with
  | zero => intros; contradiction
  | succ k ih =>
    intro v_t y1 y2 y3 y4 y5 hf H locs ls h hl
    exact w_X6_fittedBySome_40 (N := N) C hg9 ih hf h hl
set_option maxRecDepth 100000 in
set_option maxHeartbeats 4000000 in
theorem w_X6_fittedBySome_9 {p : Program} {l : Launch} {e : Env} {s : State} {m : MethodId} {args : Array Value} {below : List Frame} {meth : Method} {c : Code} {G : GG} {A : Nat → Prop} {o_t : Nat} {a_t : Nat → Nat} {N : Nat} {g9 : US → Int32 → Int32 → Int32 → Option (Int32)} {v_t : US} {y1 : Int32} {y2 : Int32} {y3 : Int32} {res : Int32} (C : MC RX6 cX6_fittedBySome 6 (some .int) G A p s m args meth c) (hg9 : ∀ {v_t : US} {y1 : Int32} {y2 : Int32} {y3 : Int32}, g9 v_t y1 y2 y3 = some res → ∀ {H : Heap} {locs : List Loc} {ls : Array Slot}, HP G A s [uX6 G o_t a_t v_t] H locs → lv_has ls 6 [(0, .ref o_t), (1, .int y1), (2, .int y2), (3, .int y3)] → W p l e (rmm 1) s m args below meth c H locs 0 0 (QI below G A args s res [uX6 G o_t a_t v_t]) (F0 m 9 ls [])) (hf : b_X6_fittedBySome_9 N g9 v_t y1 y2 y3 = some res) {H : Heap} {locs : List Loc} {ls : Array Slot} (h : HP G A s [uX6 G o_t a_t v_t] H locs) (hl : lv_has ls 6 [(0, .ref o_t), (1, .int y1), (2, .int y2), (3, .int y3)]) : W p l e (rmm 1) s m args below meth c H locs 0 0 (QI below G A args s res [uX6 G o_t a_t v_t]) (F0 m 9 ls []) := by
  unfold b_X6_fittedBySome_9 at hf
  refine lv_iload_n C.hx C.hb dX6_fittedBySome_9 rfl (lv_at hl 3 rfl) ?_
  refine lv_aload_n C.hx C.hb dX6_fittedBySome_10 rfl (lv_at hl 0 rfl) ?_
  refine g_get C h fl_X6_11 0 0 rfl rfl (v := .int (v_t.1 1)) rfl dX6_fittedBySome_11 ?_
  refine lv_icmp_ge (tgt := 83) C.hx C.hb dX6_fittedBySome_14 (by decide) (fun zc1 => ?_) (fun zc1 => ?_)
  · replace hf := it_t zc1 hf
    refine lv_iload_n C.hx C.hb dX6_fittedBySome_83 rfl (lv_at hl 2 rfl) ?_
    obtain rfl := Option.some.inj hf
    exact g_ret_i C h rfl rfl dX6_fittedBySome_84
  · replace hf := it_f zc1 hf
    refine lv_iload_n C.hx C.hb dX6_fittedBySome_17 rfl (lv_at hl 3 rfl) ?_
    refine lv_iload_n C.hx C.hb dX6_fittedBySome_18 rfl (lv_at hl 1 rfl) ?_
    refine lv_icmp_ne (tgt := 25) C.hx C.hb dX6_fittedBySome_19 (by decide) (fun zc2 => ?_) (fun zc2 => ?_)
    · replace hf := it_f zc2 hf
      refine lv_aload_n C.hx C.hb dX6_fittedBySome_25 rfl (lv_at hl 0 rfl) ?_
      refine g_get C h fl_X6_29 0 0 rfl rfl (v := .ref (a_t 6)) rfl dX6_fittedBySome_26 ?_
      refine lv_iload_n C.hx C.hb dX6_fittedBySome_29 rfl (lv_at hl 1 rfl) ?_
      refine lv_iconst (v := 5) C.hx C.hb dX6_fittedBySome_30 (by decide) ?_
      refine lv_imul C.hx C.hb dX6_fittedBySome_31 ?_
      refine lv_iload_n C.hx C.hb dX6_fittedBySome_32 rfl (lv_at hl 3 rfl) ?_
      refine lv_iadd C.hx C.hb dX6_fittedBySome_33 ?_
      obtain ⟨zi3, hf⟩ := ck_some hf
      refine g_iald C h 0 4 rfl rfl (f := v_t.2.2 6) zi3 dX6_fittedBySome_34 ?_
      refine lv_istore (lv' := [(4, .int ((v_t.2.2 6) ((y1 * 5) + y3).toNatClampNeg)), (0, .ref o_t), (1, .int y1), (2, .int y2), (3, .int y3)]) C.hx C.hb dX6_fittedBySome_35 hl (by decide) rfl (fun ls hl => ?_)
      refine lv_iconst (v := 0) C.hx C.hb dX6_fittedBySome_37 (by decide) ?_
      refine lv_istore (lv' := [(5, .int 0), (4, .int ((v_t.2.2 6) ((y1 * 5) + y3).toNatClampNeg)), (0, .ref o_t), (1, .int y1), (2, .int y2), (3, .int y3)]) C.hx C.hb dX6_fittedBySome_38 hl (by decide) rfl (fun ls hl => ?_)
      exact l_X6_fittedBySome_40 C hg9 N hf h (lv_sub hl [2, 3, 4, 5, 1, 0] rfl)
    · replace hf := it_t zc2 hf
      refine lv_goto (tgt := 77) C.hx C.hb dX6_fittedBySome_22 (by decide) ?_
      refine lv_iinc (v := y3 + 1) (lv' := [(3, .int (y3 + 1)), (0, .ref o_t), (1, .int y1), (2, .int y2)]) C.hx C.hb dX6_fittedBySome_77 hl (k := 3) rfl rfl (by decide) rfl (fun ls hl => ?_)
      refine lv_goto (tgt := 9) C.hx C.hb dX6_fittedBySome_80 (by decide) ?_
      exact hg9 hf h (lv_sub hl [1, 2, 3, 0] rfl)
set_option maxRecDepth 100000 in
set_option maxHeartbeats 4000000 in
theorem l_X6_fittedBySome_9 {p : Program} {l : Launch} {e : Env} {s : State} {m : MethodId} {args : Array Value} {below : List Frame} {meth : Method} {c : Code} {G : GG} {A : Nat → Prop} {o_t : Nat} {a_t : Nat → Nat} {N : Nat}  {res : Int32} (C : MC RX6 cX6_fittedBySome 6 (some .int) G A p s m args meth c)  : ∀ (k : Nat) {v_t : US} {y1 : Int32} {y2 : Int32} {y3 : Int32}, f_X6_fittedBySome_9 N k v_t y1 y2 y3 = some res → ∀ {H : Heap} {locs : List Loc} {ls : Array Slot}, HP G A s [uX6 G o_t a_t v_t] H locs → lv_has ls 6 [(0, .ref o_t), (1, .int y1), (2, .int y2), (3, .int y3)] → W p l e (rmm 1) s m args below meth c H locs 0 0 (QI below G A args s res [uX6 G o_t a_t v_t]) (F0 m 9 ls []) := by
  intro k
  induction k with
  | zero => intros; contradiction
  | succ k ih =>
    intro v_t y1 y2 y3 hf H locs ls h hl
    exact w_X6_fittedBySome_9 (N := N) C ih hf h hl
set_option maxRecDepth 100000 in
set_option maxHeartbeats 4000000 in
theorem c_X6_fittedBySome (l : Launch) (G : GG) (o_t : Nat) (a_t : Nat → Nat) (N : Nat) {v_t : US} {x1 : Int32} {res : Int32} (hf : f_X6_fittedBySome N v_t x1 = some res) : MI l yX6_fittedBySome cX6_fittedBySome 6 (some .int) 1 [.ref o_t, .int x1] G [uX6 G o_t a_t v_t] res [uX6 G o_t a_t v_t] := by
  unfold f_X6_fittedBySome at hf
  refine MI.intro (by decide) rfl (Nat.le_of_ble_eq_true rfl) (fun p e s m args below meth c A ls C h hl => ?_)
  have C : MC RX6 cX6_fittedBySome 6 (some .int) G A p s m args meth c := C
  have hl : lv_has ls 6 [(0, .ref o_t), (1, .int x1)] := hl
  refine lv_aload_n C.hx C.hb dX6_fittedBySome_0 rfl (lv_at hl 0 rfl) ?_
  refine g_get C h fl_X6_32 0 0 rfl rfl (v := .ref (a_t 7)) rfl dX6_fittedBySome_1 ?_
  refine lv_iload_n C.hx C.hb dX6_fittedBySome_4 rfl (lv_at hl 1 rfl) ?_
  obtain ⟨zi1, hf⟩ := ck_some hf
  refine g_iald C h 0 5 rfl rfl (f := v_t.2.2 7) zi1 dX6_fittedBySome_5 ?_
  refine lv_istore_n (lv' := [(2, .int ((v_t.2.2 7) x1.toNatClampNeg)), (0, .ref o_t), (1, .int x1)]) C.hx C.hb dX6_fittedBySome_6 rfl hl (by decide) rfl (fun ls hl => ?_)
  refine lv_iconst (v := 0) C.hx C.hb dX6_fittedBySome_7 (by decide) ?_
  refine lv_istore_n (lv' := [(3, .int 0), (2, .int ((v_t.2.2 7) x1.toNatClampNeg)), (0, .ref o_t), (1, .int x1)]) C.hx C.hb dX6_fittedBySome_8 rfl hl (by decide) rfl (fun ls hl => ?_)
  exact l_X6_fittedBySome_9 C N hf h (lv_sub hl [2, 3, 1, 0] rfl)

def b_X6_strikesOut_60 (N : Nat) (g4 : US → Int32 → Int32 → Option (Bool × US)) (g18 : US → Int32 → Int32 → Int32 → Option (Bool × US)) (v_t : US) (y2 : Int32) (y3 : Int32) (y4 : Int32) (s0 : Int32) : Option (Bool × US) :=
  if y3 < 0 ∨ 25 ≤ y3.toNatClampNeg then none else (g18 (upa v_t 7 y3.toNatClampNeg y4) s0 y2 (y3 + 1))
def b_X6_strikesOut_55 (N : Nat) (g4 : US → Int32 → Int32 → Option (Bool × US)) (g18 : US → Int32 → Int32 → Int32 → Option (Bool × US)) (v_t : US) (y2 : Int32) (y3 : Int32) (y4 : Int32) : Option (Bool × US) :=
  b_X6_strikesOut_60 N g4 g18 v_t y2 y3 y4 1
def b_X6_strikesOut_18 (N : Nat) (g4 : US → Int32 → Int32 → Option (Bool × US)) (g18 : US → Int32 → Int32 → Int32 → Option (Bool × US)) (v_t : US) (y1 : Int32) (y2 : Int32) (y3 : Int32) : Option (Bool × US) :=
  if (v_t.1 1) ≤ y3 then (g4 v_t y1 (y2 + 1)) else ((f_X6_fittedBySome N v_t y3).bind fun zr2 => if zr2 = 0 then (some (false, v_t)) else (if y1 = 0 then (if y3 < 0 ∨ 25 ≤ y3.toNatClampNeg then none else (if zr2 = ((v_t.2.2 7) y3.toNatClampNeg) then (b_X6_strikesOut_60 N g4 g18 v_t y2 y3 zr2 0) else (b_X6_strikesOut_55 N g4 g18 v_t y2 y3 zr2))) else (b_X6_strikesOut_55 N g4 g18 v_t y2 y3 zr2)))
def f_X6_strikesOut_18 (N : Nat) (g4 : US → Int32 → Int32 → Option (Bool × US)) : Nat → US → Int32 → Int32 → Int32 → Option (Bool × US)
  | 0 => fun _ _ _ _ => none
  | k + 1 => fun q0 q1 q2 q3 => b_X6_strikesOut_18 N g4 (f_X6_strikesOut_18 N g4 k) q0 q1 q2 q3
def b_X6_strikesOut_4 (N : Nat) (g4 : US → Int32 → Int32 → Option (Bool × US)) (v_t : US) (y1 : Int32) (y2 : Int32) : Option (Bool × US) :=
  if 51 ≤ y2 then (some (true, v_t)) else (if y1 = 0 then (some (true, v_t)) else (f_X6_strikesOut_18 N g4 N v_t 0 y2 0))
def f_X6_strikesOut_4 (N : Nat)  : Nat → US → Int32 → Int32 → Option (Bool × US)
  | 0 => fun _ _ _ => none
  | k + 1 => fun q0 q1 q2 => b_X6_strikesOut_4 N  (f_X6_strikesOut_4 N  k) q0 q1 q2
def f_X6_strikesOut (N : Nat) (v_t : US)  : Option (Bool × US) :=
  f_X6_strikesOut_4 N N v_t 1 0
set_option maxRecDepth 100000 in
set_option maxHeartbeats 4000000 in
theorem w_X6_strikesOut_60 {p : Program} {l : Launch} {e : Env} {s : State} {m : MethodId} {args : Array Value} {below : List Frame} {meth : Method} {c : Code} {G : GG} {A : Nat → Prop} {o_t : Nat} {a_t : Nat → Nat} {N : Nat} {g4 : US → Int32 → Int32 → Option (Bool × US)} {g18 : US → Int32 → Int32 → Int32 → Option (Bool × US)} {v_t : US} {y2 : Int32} {y3 : Int32} {y4 : Int32} {s0 : Int32} {res : Bool × US} (C : MC RX6 cX6_strikesOut 5 (some .boolean) G A p s m args meth c) (hg4 : ∀ {v_t : US} {y1 : Int32} {y2 : Int32}, g4 v_t y1 y2 = some res → ∀ {H : Heap} {locs : List Loc} {ls : Array Slot}, HP G A s [uX6 G o_t a_t v_t] H locs → lv_has ls 5 [(0, .ref o_t), (1, .int y1), (2, .int y2)] → W p l e (rmm 2) s m args below meth c H locs 0 0 (QI below G A args s (b2i res.1) [uX6 G o_t a_t res.2]) (F0 m 4 ls [])) (hg18 : ∀ {v_t : US} {y1 : Int32} {y2 : Int32} {y3 : Int32}, g18 v_t y1 y2 y3 = some res → ∀ {H : Heap} {locs : List Loc} {ls : Array Slot}, HP G A s [uX6 G o_t a_t v_t] H locs → lv_has ls 5 [(0, .ref o_t), (1, .int y1), (2, .int y2), (3, .int y3)] → W p l e (rmm 2) s m args below meth c H locs 0 0 (QI below G A args s (b2i res.1) [uX6 G o_t a_t res.2]) (F0 m 18 ls [])) (hf : b_X6_strikesOut_60 N g4 g18 v_t y2 y3 y4 s0 = some res) {H : Heap} {locs : List Loc} {ls : Array Slot} (h : HP G A s [uX6 G o_t a_t v_t] H locs) (hl : lv_has ls 5 [(0, .ref o_t), (2, .int y2), (3, .int y3), (4, .int y4)]) : W p l e (rmm 2) s m args below meth c H locs 0 0 (QI below G A args s (b2i res.1) [uX6 G o_t a_t res.2]) (F0 m 60 ls [.int s0]) := by
  unfold b_X6_strikesOut_60 at hf
  refine lv_istore_n (lv' := [(1, .int s0), (0, .ref o_t), (2, .int y2), (3, .int y3), (4, .int y4)]) C.hx C.hb dX6_strikesOut_60 rfl hl (by decide) rfl (fun ls hl => ?_)
  refine lv_aload_n C.hx C.hb dX6_strikesOut_61 rfl (lv_at hl 1 rfl) ?_
  refine g_get C h fl_X6_32 0 0 rfl rfl (v := .ref (a_t 7)) rfl dX6_strikesOut_62 ?_
  refine lv_iload_n C.hx C.hb dX6_strikesOut_65 rfl (lv_at hl 3 rfl) ?_
  refine lv_iload C.hx C.hb dX6_strikesOut_66 (lv_at hl 4 rfl) ?_
  obtain ⟨zi1, hf⟩ := ck_some hf
  refine g_iast C h 0 5 rfl rfl (f := v_t.2.2 7) zi1 dX6_strikesOut_68 (u' := uX6 G o_t a_t (upa v_t 7 y3.toNatClampNeg y4)) (us' := [uX6 G o_t a_t (upa v_t 7 y3.toNatClampNeg y4)]) rfl rfl (fun H locs h => ?_)
  refine lv_iinc (v := y3 + 1) (lv' := [(3, .int (y3 + 1)), (1, .int s0), (0, .ref o_t), (2, .int y2), (4, .int y4)]) C.hx C.hb dX6_strikesOut_69 hl (k := 3) rfl rfl (by decide) rfl (fun ls hl => ?_)
  refine lv_goto (tgt := 18) C.hx C.hb dX6_strikesOut_72 (by decide) ?_
  exact hg18 hf h (lv_sub hl [2, 1, 3, 0] rfl)
set_option maxRecDepth 100000 in
set_option maxHeartbeats 4000000 in
theorem w_X6_strikesOut_55 {p : Program} {l : Launch} {e : Env} {s : State} {m : MethodId} {args : Array Value} {below : List Frame} {meth : Method} {c : Code} {G : GG} {A : Nat → Prop} {o_t : Nat} {a_t : Nat → Nat} {N : Nat} {g4 : US → Int32 → Int32 → Option (Bool × US)} {g18 : US → Int32 → Int32 → Int32 → Option (Bool × US)} {v_t : US} {y2 : Int32} {y3 : Int32} {y4 : Int32} {res : Bool × US} (C : MC RX6 cX6_strikesOut 5 (some .boolean) G A p s m args meth c) (hg4 : ∀ {v_t : US} {y1 : Int32} {y2 : Int32}, g4 v_t y1 y2 = some res → ∀ {H : Heap} {locs : List Loc} {ls : Array Slot}, HP G A s [uX6 G o_t a_t v_t] H locs → lv_has ls 5 [(0, .ref o_t), (1, .int y1), (2, .int y2)] → W p l e (rmm 2) s m args below meth c H locs 0 0 (QI below G A args s (b2i res.1) [uX6 G o_t a_t res.2]) (F0 m 4 ls [])) (hg18 : ∀ {v_t : US} {y1 : Int32} {y2 : Int32} {y3 : Int32}, g18 v_t y1 y2 y3 = some res → ∀ {H : Heap} {locs : List Loc} {ls : Array Slot}, HP G A s [uX6 G o_t a_t v_t] H locs → lv_has ls 5 [(0, .ref o_t), (1, .int y1), (2, .int y2), (3, .int y3)] → W p l e (rmm 2) s m args below meth c H locs 0 0 (QI below G A args s (b2i res.1) [uX6 G o_t a_t res.2]) (F0 m 18 ls [])) (hf : b_X6_strikesOut_55 N g4 g18 v_t y2 y3 y4 = some res) {H : Heap} {locs : List Loc} {ls : Array Slot} (h : HP G A s [uX6 G o_t a_t v_t] H locs) (hl : lv_has ls 5 [(0, .ref o_t), (2, .int y2), (3, .int y3), (4, .int y4)]) : W p l e (rmm 2) s m args below meth c H locs 0 0 (QI below G A args s (b2i res.1) [uX6 G o_t a_t res.2]) (F0 m 55 ls []) := by
  unfold b_X6_strikesOut_55 at hf
  refine lv_iconst (v := 1) C.hx C.hb dX6_strikesOut_55 (by decide) ?_
  refine lv_goto (tgt := 60) C.hx C.hb dX6_strikesOut_56 (by decide) ?_
  exact w_X6_strikesOut_60 C hg4 hg18 hf h (lv_sub hl [0, 1, 2, 3] rfl)
set_option maxRecDepth 100000 in
set_option maxHeartbeats 4000000 in
theorem w_X6_strikesOut_18 {p : Program} {l : Launch} {e : Env} {s : State} {m : MethodId} {args : Array Value} {below : List Frame} {meth : Method} {c : Code} {G : GG} {A : Nat → Prop} {o_t : Nat} {a_t : Nat → Nat} {N : Nat} {g4 : US → Int32 → Int32 → Option (Bool × US)} {g18 : US → Int32 → Int32 → Int32 → Option (Bool × US)} {v_t : US} {y1 : Int32} {y2 : Int32} {y3 : Int32} {res : Bool × US} (C : MC RX6 cX6_strikesOut 5 (some .boolean) G A p s m args meth c) (hg4 : ∀ {v_t : US} {y1 : Int32} {y2 : Int32}, g4 v_t y1 y2 = some res → ∀ {H : Heap} {locs : List Loc} {ls : Array Slot}, HP G A s [uX6 G o_t a_t v_t] H locs → lv_has ls 5 [(0, .ref o_t), (1, .int y1), (2, .int y2)] → W p l e (rmm 2) s m args below meth c H locs 0 0 (QI below G A args s (b2i res.1) [uX6 G o_t a_t res.2]) (F0 m 4 ls [])) (hg18 : ∀ {v_t : US} {y1 : Int32} {y2 : Int32} {y3 : Int32}, g18 v_t y1 y2 y3 = some res → ∀ {H : Heap} {locs : List Loc} {ls : Array Slot}, HP G A s [uX6 G o_t a_t v_t] H locs → lv_has ls 5 [(0, .ref o_t), (1, .int y1), (2, .int y2), (3, .int y3)] → W p l e (rmm 2) s m args below meth c H locs 0 0 (QI below G A args s (b2i res.1) [uX6 G o_t a_t res.2]) (F0 m 18 ls [])) (hf : b_X6_strikesOut_18 N g4 g18 v_t y1 y2 y3 = some res) {H : Heap} {locs : List Loc} {ls : Array Slot} (h : HP G A s [uX6 G o_t a_t v_t] H locs) (hl : lv_has ls 5 [(0, .ref o_t), (1, .int y1), (2, .int y2), (3, .int y3)]) : W p l e (rmm 2) s m args below meth c H locs 0 0 (QI below G A args s (b2i res.1) [uX6 G o_t a_t res.2]) (F0 m 18 ls []) := by
  unfold b_X6_strikesOut_18 at hf
  refine lv_iload_n C.hx C.hb dX6_strikesOut_18 rfl (lv_at hl 3 rfl) ?_
  refine lv_aload_n C.hx C.hb dX6_strikesOut_19 rfl (lv_at hl 0 rfl) ?_
  refine g_get C h fl_X6_11 0 0 rfl rfl (v := .int (v_t.1 1)) rfl dX6_strikesOut_20 ?_
  refine lv_icmp_ge (tgt := 75) C.hx C.hb dX6_strikesOut_23 (by decide) (fun zc1 => ?_) (fun zc1 => ?_)
  · replace hf := it_t zc1 hf
    refine lv_iinc (v := y2 + 1) (lv' := [(2, .int (y2 + 1)), (0, .ref o_t), (1, .int y1), (3, .int y3)]) C.hx C.hb dX6_strikesOut_75 hl (k := 2) rfl rfl (by decide) rfl (fun ls hl => ?_)
    refine lv_goto (tgt := 4) C.hx C.hb dX6_strikesOut_78 (by decide) ?_
    exact hg4 hf h (lv_sub hl [1, 2, 0] rfl)
  · replace hf := it_f zc1 hf
    refine lv_aload_n C.hx C.hb dX6_strikesOut_26 rfl (lv_at hl 0 rfl) ?_
    refine lv_iload_n C.hx C.hb dX6_strikesOut_27 rfl (lv_at hl 3 rfl) ?_
    obtain ⟨zr2, zq3, hf⟩ := bd_some hf
    have zm4 := c_X6_fittedBySome l G o_t a_t N (hf := zq3)
    refine g_goI C h zm4.1 (is := [0]) rfl rfl (g_runV C h (is := [0]) rfl rfl (As := [.int y3]) (rest := []) (zm4.2 _) vf_X6_113 0 0 rfl rfl hl.1 rfl rfl (Nat.le_of_ble_eq_true rfl) dX6_strikesOut_28 ⟨Nat.le_of_ble_eq_true rfl, Nat.le_of_ble_eq_true rfl⟩ ⟨Nat.le_refl _, Nat.le_refl _⟩) (us2 := [uX6 G o_t a_t v_t]) rfl (fun H locs h => ?_)
    refine lv_istore (lv' := [(4, .int zr2), (0, .ref o_t), (1, .int y1), (2, .int y2), (3, .int y3)]) C.hx C.hb dX6_strikesOut_31 hl (by decide) rfl (fun ls hl => ?_)
    refine lv_iload C.hx C.hb dX6_strikesOut_33 (lv_at hl 0 rfl) ?_
    refine lv_if_ne (tgt := 40) C.hx C.hb dX6_strikesOut_35 (by decide) (fun zc5 => ?_) (fun zc5 => ?_)
    · replace hf := it_f zc5 hf
      refine lv_iload_n C.hx C.hb dX6_strikesOut_40 rfl (lv_at hl 2 rfl) ?_
      refine lv_if_ne (tgt := 55) C.hx C.hb dX6_strikesOut_41 (by decide) (fun zc6 => ?_) (fun zc6 => ?_)
      · replace hf := it_f zc6 hf
        exact w_X6_strikesOut_55 C hg4 hg18 hf h (lv_sub hl [1, 3, 4, 0] rfl)
      · replace hf := it_t zc6 hf
        refine lv_iload C.hx C.hb dX6_strikesOut_44 (lv_at hl 0 rfl) ?_
        refine lv_aload_n C.hx C.hb dX6_strikesOut_46 rfl (lv_at hl 1 rfl) ?_
        refine g_get C h fl_X6_32 0 0 rfl rfl (v := .ref (a_t 7)) rfl dX6_strikesOut_47 ?_
        refine lv_iload_n C.hx C.hb dX6_strikesOut_50 rfl (lv_at hl 4 rfl) ?_
        obtain ⟨zi7, hf⟩ := ck_some hf
        refine g_iald C h 0 5 rfl rfl (f := v_t.2.2 7) zi7 dX6_strikesOut_51 ?_
        refine lv_icmp_eq (tgt := 59) C.hx C.hb dX6_strikesOut_52 (by decide) (fun zc8 => ?_) (fun zc8 => ?_)
        · replace hf := it_t zc8 hf
          refine lv_iconst (v := 0) C.hx C.hb dX6_strikesOut_59 (by decide) ?_
          exact w_X6_strikesOut_60 C hg4 hg18 hf h (lv_sub hl [1, 3, 4, 0] rfl)
        · replace hf := it_f zc8 hf
          exact w_X6_strikesOut_55 C hg4 hg18 hf h (lv_sub hl [1, 3, 4, 0] rfl)
    · replace hf := it_t zc5 hf
      refine lv_iconst (v := 0) C.hx C.hb dX6_strikesOut_38 (by decide) ?_
      obtain rfl := Option.some.inj hf
      exact g_ret_z (b := false) C h rfl rfl rfl dX6_strikesOut_39
set_option maxRecDepth 100000 in
set_option maxHeartbeats 4000000 in
theorem l_X6_strikesOut_18 {p : Program} {l : Launch} {e : Env} {s : State} {m : MethodId} {args : Array Value} {below : List Frame} {meth : Method} {c : Code} {G : GG} {A : Nat → Prop} {o_t : Nat} {a_t : Nat → Nat} {N : Nat} {g4 : US → Int32 → Int32 → Option (Bool × US)} {res : Bool × US} (C : MC RX6 cX6_strikesOut 5 (some .boolean) G A p s m args meth c) (hg4 : ∀ {v_t : US} {y1 : Int32} {y2 : Int32}, g4 v_t y1 y2 = some res → ∀ {H : Heap} {locs : List Loc} {ls : Array Slot}, HP G A s [uX6 G o_t a_t v_t] H locs → lv_has ls 5 [(0, .ref o_t), (1, .int y1), (2, .int y2)] → W p l e (rmm 2) s m args below meth c H locs 0 0 (QI below G A args s (b2i res.1) [uX6 G o_t a_t res.2]) (F0 m 4 ls [])) : ∀ (k : Nat) {v_t : US} {y1 : Int32} {y2 : Int32} {y3 : Int32}, f_X6_strikesOut_18 N g4 k v_t y1 y2 y3 = some res → ∀ {H : Heap} {locs : List Loc} {ls : Array Slot}, HP G A s [uX6 G o_t a_t v_t] H locs → lv_has ls 5 [(0, .ref o_t), (1, .int y1), (2, .int y2), (3, .int y3)] → W p l e (rmm 2) s m args below meth c H locs 0 0 (QI below G A args s (b2i res.1) [uX6 G o_t a_t res.2]) (F0 m 18 ls []) := by
  intro k
  induction k with
  | zero => intros; contradiction
  | succ k ih =>
    intro v_t y1 y2 y3 hf H locs ls h hl
    exact w_X6_strikesOut_18 (N := N) C hg4 ih hf h hl
set_option maxRecDepth 100000 in
set_option maxHeartbeats 4000000 in
theorem w_X6_strikesOut_4 {p : Program} {l : Launch} {e : Env} {s : State} {m : MethodId} {args : Array Value} {below : List Frame} {meth : Method} {c : Code} {G : GG} {A : Nat → Prop} {o_t : Nat} {a_t : Nat → Nat} {N : Nat} {g4 : US → Int32 → Int32 → Option (Bool × US)} {v_t : US} {y1 : Int32} {y2 : Int32} {res : Bool × US} (C : MC RX6 cX6_strikesOut 5 (some .boolean) G A p s m args meth c) (hg4 : ∀ {v_t : US} {y1 : Int32} {y2 : Int32}, g4 v_t y1 y2 = some res → ∀ {H : Heap} {locs : List Loc} {ls : Array Slot}, HP G A s [uX6 G o_t a_t v_t] H locs → lv_has ls 5 [(0, .ref o_t), (1, .int y1), (2, .int y2)] → W p l e (rmm 2) s m args below meth c H locs 0 0 (QI below G A args s (b2i res.1) [uX6 G o_t a_t res.2]) (F0 m 4 ls [])) (hf : b_X6_strikesOut_4 N g4 v_t y1 y2 = some res) {H : Heap} {locs : List Loc} {ls : Array Slot} (h : HP G A s [uX6 G o_t a_t v_t] H locs) (hl : lv_has ls 5 [(0, .ref o_t), (1, .int y1), (2, .int y2)]) : W p l e (rmm 2) s m args below meth c H locs 0 0 (QI below G A args s (b2i res.1) [uX6 G o_t a_t res.2]) (F0 m 4 ls []) := by
  unfold b_X6_strikesOut_4 at hf
  refine lv_iload_n C.hx C.hb dX6_strikesOut_4 rfl (lv_at hl 2 rfl) ?_
  refine lv_bipush (v := 51) C.hx C.hb dX6_strikesOut_5 (by decide) ?_
  refine lv_icmp_ge (tgt := 81) C.hx C.hb dX6_strikesOut_7 (by decide) (fun zc1 => ?_) (fun zc1 => ?_)
  · replace hf := it_t zc1 hf
    refine lv_iconst (v := 1) C.hx C.hb dX6_strikesOut_81 (by decide) ?_
    obtain rfl := Option.some.inj hf
    exact g_ret_z (b := true) C h rfl rfl rfl dX6_strikesOut_82
  · replace hf := it_f zc1 hf
    refine lv_iload_n C.hx C.hb dX6_strikesOut_10 rfl (lv_at hl 1 rfl) ?_
    refine lv_if_eq (tgt := 81) C.hx C.hb dX6_strikesOut_11 (by decide) (fun zc2 => ?_) (fun zc2 => ?_)
    · replace hf := it_t zc2 hf
      refine lv_iconst (v := 1) C.hx C.hb dX6_strikesOut_81 (by decide) ?_
      obtain rfl := Option.some.inj hf
      exact g_ret_z (b := true) C h rfl rfl rfl dX6_strikesOut_82
    · replace hf := it_f zc2 hf
      refine lv_iconst (v := 0) C.hx C.hb dX6_strikesOut_14 (by decide) ?_
      refine lv_istore_n (lv' := [(1, .int 0), (0, .ref o_t), (2, .int y2)]) C.hx C.hb dX6_strikesOut_15 rfl hl (by decide) rfl (fun ls hl => ?_)
      refine lv_iconst (v := 0) C.hx C.hb dX6_strikesOut_16 (by decide) ?_
      refine lv_istore_n (lv' := [(3, .int 0), (1, .int 0), (0, .ref o_t), (2, .int y2)]) C.hx C.hb dX6_strikesOut_17 rfl hl (by decide) rfl (fun ls hl => ?_)
      exact l_X6_strikesOut_18 C hg4 N hf h (lv_sub hl [2, 1, 3, 0] rfl)
set_option maxRecDepth 100000 in
set_option maxHeartbeats 4000000 in
theorem l_X6_strikesOut_4 {p : Program} {l : Launch} {e : Env} {s : State} {m : MethodId} {args : Array Value} {below : List Frame} {meth : Method} {c : Code} {G : GG} {A : Nat → Prop} {o_t : Nat} {a_t : Nat → Nat} {N : Nat}  {res : Bool × US} (C : MC RX6 cX6_strikesOut 5 (some .boolean) G A p s m args meth c)  : ∀ (k : Nat) {v_t : US} {y1 : Int32} {y2 : Int32}, f_X6_strikesOut_4 N k v_t y1 y2 = some res → ∀ {H : Heap} {locs : List Loc} {ls : Array Slot}, HP G A s [uX6 G o_t a_t v_t] H locs → lv_has ls 5 [(0, .ref o_t), (1, .int y1), (2, .int y2)] → W p l e (rmm 2) s m args below meth c H locs 0 0 (QI below G A args s (b2i res.1) [uX6 G o_t a_t res.2]) (F0 m 4 ls []) := by
  intro k
  induction k with
  | zero => intros; contradiction
  | succ k ih =>
    intro v_t y1 y2 hf H locs ls h hl
    exact w_X6_strikesOut_4 (N := N) C ih hf h hl
set_option maxRecDepth 100000 in
set_option maxHeartbeats 4000000 in
theorem c_X6_strikesOut (l : Launch) (G : GG) (o_t : Nat) (a_t : Nat → Nat) (N : Nat) {v_t : US}  {res : Bool × US} (hf : f_X6_strikesOut N v_t = some res) : MI l yX6_strikesOut cX6_strikesOut 5 (some .boolean) 2 [.ref o_t] G [uX6 G o_t a_t v_t] (b2i res.1) [uX6 G o_t a_t res.2] := by
  unfold f_X6_strikesOut at hf
  refine MI.intro (by decide) rfl (Nat.le_of_ble_eq_true rfl) (fun p e s m args below meth c A ls C h hl => ?_)
  have C : MC RX6 cX6_strikesOut 5 (some .boolean) G A p s m args meth c := C
  have hl : lv_has ls 5 [(0, .ref o_t)] := hl
  refine lv_iconst (v := 1) C.hx C.hb dX6_strikesOut_0 (by decide) ?_
  refine lv_istore_n (lv' := [(1, .int 1), (0, .ref o_t)]) C.hx C.hb dX6_strikesOut_1 rfl hl (by decide) rfl (fun ls hl => ?_)
  refine lv_iconst (v := 0) C.hx C.hb dX6_strikesOut_2 (by decide) ?_
  refine lv_istore_n (lv' := [(2, .int 0), (1, .int 1), (0, .ref o_t)]) C.hx C.hb dX6_strikesOut_3 rfl hl (by decide) rfl (fun ls hl => ?_)
  exact l_X6_strikesOut_4 C N hf h (lv_sub hl [2, 1, 0] rfl)

def b_X6_fitsWithout_67 (N : Nat) (g67 : US → Int32 → Option (Bool × US)) (v_t : US) (y2 : Int32) : Option (Bool × US) :=
  if (v_t.1 1) ≤ y2 then ((f_X6_strikesOut N v_t).bind fun zr2 => if (b2i zr2.1) = 0 then (some (false, zr2.2)) else ((f_X6_fitsFrom N 6 zr2.2 0).bind fun zr6 => if (b2i zr6.1) = 0 then (some (false, zr6.2)) else (some (true, zr6.2)))) else (if y2 < 0 ∨ 25 ≤ y2.toNatClampNeg then none else (g67 (upa v_t 7 y2.toNatClampNeg 1023) (y2 + 1)))
def f_X6_fitsWithout_67 (N : Nat)  : Nat → US → Int32 → Option (Bool × US)
  | 0 => fun _ _ => none
  | k + 1 => fun q0 q1 => b_X6_fitsWithout_67 N  (f_X6_fitsWithout_67 N  k) q0 q1
def b_X6_fitsWithout_24 (N : Nat) (g24 : US → Int32 → Int32 → Option (Bool × US)) (v_t : US) (y1 : Int32) (y2 : Int32) : Option (Bool × US) :=
  if (v_t.1 2) ≤ y2 then (f_X6_fitsWithout_67 N N v_t 0) else ((f_X11_has y1 y2).bind fun zr2 => if (b2i zr2) = 0 then (if y2 < 0 ∨ 4 ≤ y2.toNatClampNeg then none else (if ((v_t.2.2 4) y2.toNatClampNeg) = 0 then (some (false, v_t)) else ((f_X6_narrowPairs N v_t y2).bind fun zr8 => g24 zr8 y1 (y2 + 1)))) else (g24 v_t y1 (y2 + 1)))
def f_X6_fitsWithout_24 (N : Nat)  : Nat → US → Int32 → Int32 → Option (Bool × US)
  | 0 => fun _ _ _ => none
  | k + 1 => fun q0 q1 q2 => b_X6_fitsWithout_24 N  (f_X6_fitsWithout_24 N  k) q0 q1 q2
def b_X6_fitsWithout_2 (N : Nat) (g2 : US → Int32 → Int32 → Option (Bool × US)) (v_t : US) (y1 : Int32) (y2 : Int32) : Option (Bool × US) :=
  if 25 ≤ y2 then (f_X6_fitsWithout_24 N N v_t y1 0) else (if y2 < 0 ∨ 25 ≤ y2.toNatClampNeg then none else (g2 (upa v_t 6 y2.toNatClampNeg 524287) y1 (y2 + 1)))
def f_X6_fitsWithout_2 (N : Nat)  : Nat → US → Int32 → Int32 → Option (Bool × US)
  | 0 => fun _ _ _ => none
  | k + 1 => fun q0 q1 q2 => b_X6_fitsWithout_2 N  (f_X6_fitsWithout_2 N  k) q0 q1 q2
def f_X6_fitsWithout (N : Nat) (v_t : US) (x1 : Int32) : Option (Bool × US) :=
  f_X6_fitsWithout_2 N N v_t x1 0
set_option maxRecDepth 100000 in
set_option maxHeartbeats 4000000 in
theorem w_X6_fitsWithout_67 {p : Program} {l : Launch} {e : Env} {s : State} {m : MethodId} {args : Array Value} {below : List Frame} {meth : Method} {c : Code} {G : GG} {A : Nat → Prop} {o_t : Nat} {a_t : Nat → Nat} {N : Nat} {g67 : US → Int32 → Option (Bool × US)} {v_t : US} {y2 : Int32} {res : Bool × US} (C : MC RX6 cX6_fitsWithout 3 (some .boolean) G A p s m args meth c) (hg67 : ∀ {v_t : US} {y2 : Int32}, g67 v_t y2 = some res → ∀ {H : Heap} {locs : List Loc} {ls : Array Slot}, HP G A s [uX6 G o_t a_t v_t] H locs → lv_has ls 3 [(0, .ref o_t), (2, .int y2)] → W p l e (rmm 9) s m args below meth c H locs 0 0 (QI below G A args s (b2i res.1) [uX6 G o_t a_t res.2]) (F0 m 67 ls [])) (hf : b_X6_fitsWithout_67 N g67 v_t y2 = some res) {H : Heap} {locs : List Loc} {ls : Array Slot} (h : HP G A s [uX6 G o_t a_t v_t] H locs) (hl : lv_has ls 3 [(0, .ref o_t), (2, .int y2)]) : W p l e (rmm 9) s m args below meth c H locs 0 0 (QI below G A args s (b2i res.1) [uX6 G o_t a_t res.2]) (F0 m 67 ls []) := by
  unfold b_X6_fitsWithout_67 at hf
  refine lv_iload_n C.hx C.hb dX6_fitsWithout_67 rfl (lv_at hl 1 rfl) ?_
  refine lv_aload_n C.hx C.hb dX6_fitsWithout_68 rfl (lv_at hl 0 rfl) ?_
  refine g_get C h fl_X6_11 0 0 rfl rfl (v := .int (v_t.1 1)) rfl dX6_fitsWithout_69 ?_
  refine lv_icmp_ge (tgt := 90) C.hx C.hb dX6_fitsWithout_72 (by decide) (fun zc1 => ?_) (fun zc1 => ?_)
  · replace hf := it_t zc1 hf
    refine lv_aload_n C.hx C.hb dX6_fitsWithout_90 rfl (lv_at hl 0 rfl) ?_
    obtain ⟨zr2, zq3, hf⟩ := bd_some hf
    have zm4 := c_X6_strikesOut l G o_t a_t N (hf := zq3)
    refine g_goI C h zm4.1 (is := [0]) rfl rfl (g_runV C h (is := [0]) rfl rfl (As := []) (rest := []) (zm4.2 _) vf_X6_106 0 0 rfl rfl hl.1 rfl rfl (Nat.le_of_ble_eq_true rfl) dX6_fitsWithout_91 ⟨Nat.le_of_ble_eq_true rfl, Nat.le_of_ble_eq_true rfl⟩ ⟨Nat.le_refl _, Nat.le_refl _⟩) (us2 := [uX6 G o_t a_t zr2.2]) rfl (fun H locs h => ?_)
    refine lv_if_eq (tgt := 109) C.hx C.hb dX6_fitsWithout_94 (by decide) (fun zc5 => ?_) (fun zc5 => ?_)
    · replace hf := it_t zc5 hf
      refine lv_iconst (v := 0) C.hx C.hb dX6_fitsWithout_109 (by decide) ?_
      obtain rfl := Option.some.inj hf
      exact g_ret_z (b := false) C h rfl rfl rfl dX6_fitsWithout_110
    · replace hf := it_f zc5 hf
      refine lv_aload_n C.hx C.hb dX6_fitsWithout_97 rfl (lv_at hl 0 rfl) ?_
      refine lv_iconst (v := 0) C.hx C.hb dX6_fitsWithout_98 (by decide) ?_
      obtain ⟨zr6, zq7, hf⟩ := bd_some hf
      have zm8 := c_X6_fitsFrom l G o_t a_t N 6 zq7
      refine g_goI C h zm8.1 (is := [0]) rfl rfl (g_runV C h (is := [0]) rfl rfl (As := [.int 0]) (rest := []) (zm8.2 _) vf_X6_110 0 0 rfl rfl hl.1 rfl rfl (Nat.le_of_ble_eq_true rfl) dX6_fitsWithout_99 ⟨Nat.le_of_ble_eq_true rfl, Nat.le_of_ble_eq_true rfl⟩ ⟨Nat.le_refl _, Nat.le_refl _⟩) (us2 := [uX6 G o_t a_t zr6.2]) rfl (fun H locs h => ?_)
      refine lv_if_eq (tgt := 109) C.hx C.hb dX6_fitsWithout_102 (by decide) (fun zc9 => ?_) (fun zc9 => ?_)
      · replace hf := it_t zc9 hf
        refine lv_iconst (v := 0) C.hx C.hb dX6_fitsWithout_109 (by decide) ?_
        obtain rfl := Option.some.inj hf
        exact g_ret_z (b := false) C h rfl rfl rfl dX6_fitsWithout_110
      · replace hf := it_f zc9 hf
        refine lv_iconst (v := 1) C.hx C.hb dX6_fitsWithout_105 (by decide) ?_
        refine lv_goto (tgt := 110) C.hx C.hb dX6_fitsWithout_106 (by decide) ?_
        obtain rfl := Option.some.inj hf
        exact g_ret_z (b := true) C h rfl rfl rfl dX6_fitsWithout_110
  · replace hf := it_f zc1 hf
    refine lv_aload_n C.hx C.hb dX6_fitsWithout_75 rfl (lv_at hl 0 rfl) ?_
    refine g_get C h fl_X6_32 0 0 rfl rfl (v := .ref (a_t 7)) rfl dX6_fitsWithout_76 ?_
    refine lv_iload_n C.hx C.hb dX6_fitsWithout_79 rfl (lv_at hl 1 rfl) ?_
    refine lv_sipush (v := 1023) C.hx C.hb dX6_fitsWithout_80 (by decide) ?_
    obtain ⟨zi10, hf⟩ := ck_some hf
    refine g_iast C h 0 5 rfl rfl (f := v_t.2.2 7) zi10 dX6_fitsWithout_83 (u' := uX6 G o_t a_t (upa v_t 7 y2.toNatClampNeg 1023)) (us' := [uX6 G o_t a_t (upa v_t 7 y2.toNatClampNeg 1023)]) rfl rfl (fun H locs h => ?_)
    refine lv_iinc (v := y2 + 1) (lv' := [(2, .int (y2 + 1)), (0, .ref o_t)]) C.hx C.hb dX6_fitsWithout_84 hl (k := 1) rfl rfl (by decide) rfl (fun ls hl => ?_)
    refine lv_goto (tgt := 67) C.hx C.hb dX6_fitsWithout_87 (by decide) ?_
    exact hg67 hf h (lv_sub hl [1, 0] rfl)
set_option maxRecDepth 100000 in
set_option maxHeartbeats 4000000 in
theorem l_X6_fitsWithout_67 {p : Program} {l : Launch} {e : Env} {s : State} {m : MethodId} {args : Array Value} {below : List Frame} {meth : Method} {c : Code} {G : GG} {A : Nat → Prop} {o_t : Nat} {a_t : Nat → Nat} {N : Nat}  {res : Bool × US} (C : MC RX6 cX6_fitsWithout 3 (some .boolean) G A p s m args meth c)  : ∀ (k : Nat) {v_t : US} {y2 : Int32}, f_X6_fitsWithout_67 N k v_t y2 = some res → ∀ {H : Heap} {locs : List Loc} {ls : Array Slot}, HP G A s [uX6 G o_t a_t v_t] H locs → lv_has ls 3 [(0, .ref o_t), (2, .int y2)] → W p l e (rmm 9) s m args below meth c H locs 0 0 (QI below G A args s (b2i res.1) [uX6 G o_t a_t res.2]) (F0 m 67 ls []) := by
  intro k
  induction k with
  | zero => intros; contradiction
  | succ k ih =>
    intro v_t y2 hf H locs ls h hl
    exact w_X6_fitsWithout_67 (N := N) C ih hf h hl
set_option maxRecDepth 100000 in
set_option maxHeartbeats 4000000 in
theorem w_X6_fitsWithout_24 {p : Program} {l : Launch} {e : Env} {s : State} {m : MethodId} {args : Array Value} {below : List Frame} {meth : Method} {c : Code} {G : GG} {A : Nat → Prop} {o_t : Nat} {a_t : Nat → Nat} {N : Nat} {g24 : US → Int32 → Int32 → Option (Bool × US)} {v_t : US} {y1 : Int32} {y2 : Int32} {res : Bool × US} (C : MC RX6 cX6_fitsWithout 3 (some .boolean) G A p s m args meth c) (hg24 : ∀ {v_t : US} {y1 : Int32} {y2 : Int32}, g24 v_t y1 y2 = some res → ∀ {H : Heap} {locs : List Loc} {ls : Array Slot}, HP G A s [uX6 G o_t a_t v_t] H locs → lv_has ls 3 [(0, .ref o_t), (1, .int y1), (2, .int y2)] → W p l e (rmm 9) s m args below meth c H locs 0 0 (QI below G A args s (b2i res.1) [uX6 G o_t a_t res.2]) (F0 m 24 ls [])) (hf : b_X6_fitsWithout_24 N g24 v_t y1 y2 = some res) {H : Heap} {locs : List Loc} {ls : Array Slot} (h : HP G A s [uX6 G o_t a_t v_t] H locs) (hl : lv_has ls 3 [(0, .ref o_t), (1, .int y1), (2, .int y2)]) : W p l e (rmm 9) s m args below meth c H locs 0 0 (QI below G A args s (b2i res.1) [uX6 G o_t a_t res.2]) (F0 m 24 ls []) := by
  unfold b_X6_fitsWithout_24 at hf
  refine lv_iload_n C.hx C.hb dX6_fitsWithout_24 rfl (lv_at hl 2 rfl) ?_
  refine lv_aload_n C.hx C.hb dX6_fitsWithout_25 rfl (lv_at hl 0 rfl) ?_
  refine g_get C h fl_X6_15 0 0 rfl rfl (v := .int (v_t.1 2)) rfl dX6_fitsWithout_26 ?_
  refine lv_icmp_ge (tgt := 65) C.hx C.hb dX6_fitsWithout_29 (by decide) (fun zc1 => ?_) (fun zc1 => ?_)
  · replace hf := it_t zc1 hf
    refine lv_iconst (v := 0) C.hx C.hb dX6_fitsWithout_65 (by decide) ?_
    refine lv_istore_n (lv' := [(2, .int 0), (0, .ref o_t), (1, .int y1)]) C.hx C.hb dX6_fitsWithout_66 rfl hl (by decide) rfl (fun ls hl => ?_)
    exact l_X6_fitsWithout_67 C N hf h (lv_sub hl [1, 0] rfl)
  · replace hf := it_f zc1 hf
    refine lv_iload_n C.hx C.hb dX6_fitsWithout_32 rfl (lv_at hl 1 rfl) ?_
    refine lv_iload_n C.hx C.hb dX6_fitsWithout_33 rfl (lv_at hl 2 rfl) ?_
    obtain ⟨zr2, zq3, hf⟩ := bd_some hf
    have zm4 := c_X11_has l G  (hf := zq3)
    refine g_goI C h zm4.1 (is := []) rfl rfl (g_runN C h (is := []) rfl rfl (As := [.int y1, .int y2]) (rest := []) (zm4.2 _) nf_X6_87 hl.1 rfl rfl (Nat.le_of_ble_eq_true rfl) dX6_fitsWithout_34 ⟨Nat.le_of_ble_eq_true rfl, Nat.le_of_ble_eq_true rfl⟩ ⟨Nat.le_refl _, Nat.le_refl _⟩) (us2 := [uX6 G o_t a_t v_t]) rfl (fun H locs h => ?_)
    refine lv_if_eq (tgt := 43) C.hx C.hb dX6_fitsWithout_37 (by decide) (fun zc5 => ?_) (fun zc5 => ?_)
    · replace hf := it_t zc5 hf
      refine lv_aload_n C.hx C.hb dX6_fitsWithout_43 rfl (lv_at hl 0 rfl) ?_
      refine g_get C h fl_X6_22 0 0 rfl rfl (v := .ref (a_t 4)) rfl dX6_fitsWithout_44 ?_
      refine lv_iload_n C.hx C.hb dX6_fitsWithout_47 rfl (lv_at hl 2 rfl) ?_
      obtain ⟨zi6, hf⟩ := ck_some hf
      refine g_zald C h 0 2 rfl rfl (f := v_t.2.2 4) zi6 dX6_fitsWithout_48 ?_
      refine lv_if_ne (tgt := 54) C.hx C.hb dX6_fitsWithout_49 (by decide) (fun zc7 => ?_) (fun zc7 => ?_)
      · replace hf := it_f zc7 hf
        refine lv_aload_n C.hx C.hb dX6_fitsWithout_54 rfl (lv_at hl 0 rfl) ?_
        refine lv_iload_n C.hx C.hb dX6_fitsWithout_55 rfl (lv_at hl 2 rfl) ?_
        obtain ⟨zr8, zq9, hf⟩ := bd_some hf
        have zm10 := c_X6_narrowPairs l G o_t a_t N (hf := zq9)
        refine g_goV C h zm10.1 (is := [0]) rfl rfl (g_runV C h (is := [0]) rfl rfl (As := [.int y2]) (rest := []) (zm10.2 _) vf_X6_102 0 0 rfl rfl hl.1 rfl rfl (Nat.le_of_ble_eq_true rfl) dX6_fitsWithout_56 ⟨Nat.le_of_ble_eq_true rfl, Nat.le_of_ble_eq_true rfl⟩ ⟨Nat.le_refl _, Nat.le_refl _⟩) (us2 := [uX6 G o_t a_t zr8]) rfl (fun H locs h => ?_)
        refine lv_iinc (v := y2 + 1) (lv' := [(2, .int (y2 + 1)), (0, .ref o_t), (1, .int y1)]) C.hx C.hb dX6_fitsWithout_59 hl (k := 2) rfl rfl (by decide) rfl (fun ls hl => ?_)
        refine lv_goto (tgt := 24) C.hx C.hb dX6_fitsWithout_62 (by decide) ?_
        exact hg24 hf h (lv_sub hl [1, 2, 0] rfl)
      · replace hf := it_t zc7 hf
        refine lv_iconst (v := 0) C.hx C.hb dX6_fitsWithout_52 (by decide) ?_
        obtain rfl := Option.some.inj hf
        exact g_ret_z (b := false) C h rfl rfl rfl dX6_fitsWithout_53
    · replace hf := it_f zc5 hf
      refine lv_goto (tgt := 59) C.hx C.hb dX6_fitsWithout_40 (by decide) ?_
      refine lv_iinc (v := y2 + 1) (lv' := [(2, .int (y2 + 1)), (0, .ref o_t), (1, .int y1)]) C.hx C.hb dX6_fitsWithout_59 hl (k := 2) rfl rfl (by decide) rfl (fun ls hl => ?_)
      refine lv_goto (tgt := 24) C.hx C.hb dX6_fitsWithout_62 (by decide) ?_
      exact hg24 hf h (lv_sub hl [1, 2, 0] rfl)
set_option maxRecDepth 100000 in
set_option maxHeartbeats 4000000 in
theorem l_X6_fitsWithout_24 {p : Program} {l : Launch} {e : Env} {s : State} {m : MethodId} {args : Array Value} {below : List Frame} {meth : Method} {c : Code} {G : GG} {A : Nat → Prop} {o_t : Nat} {a_t : Nat → Nat} {N : Nat}  {res : Bool × US} (C : MC RX6 cX6_fitsWithout 3 (some .boolean) G A p s m args meth c)  : ∀ (k : Nat) {v_t : US} {y1 : Int32} {y2 : Int32}, f_X6_fitsWithout_24 N k v_t y1 y2 = some res → ∀ {H : Heap} {locs : List Loc} {ls : Array Slot}, HP G A s [uX6 G o_t a_t v_t] H locs → lv_has ls 3 [(0, .ref o_t), (1, .int y1), (2, .int y2)] → W p l e (rmm 9) s m args below meth c H locs 0 0 (QI below G A args s (b2i res.1) [uX6 G o_t a_t res.2]) (F0 m 24 ls []) := by
  intro k
  induction k with
  | zero => intros; contradiction
  | succ k ih =>
    intro v_t y1 y2 hf H locs ls h hl
    exact w_X6_fitsWithout_24 (N := N) C ih hf h hl
set_option maxRecDepth 100000 in
set_option maxHeartbeats 4000000 in
theorem w_X6_fitsWithout_2 {p : Program} {l : Launch} {e : Env} {s : State} {m : MethodId} {args : Array Value} {below : List Frame} {meth : Method} {c : Code} {G : GG} {A : Nat → Prop} {o_t : Nat} {a_t : Nat → Nat} {N : Nat} {g2 : US → Int32 → Int32 → Option (Bool × US)} {v_t : US} {y1 : Int32} {y2 : Int32} {res : Bool × US} (C : MC RX6 cX6_fitsWithout 3 (some .boolean) G A p s m args meth c) (hg2 : ∀ {v_t : US} {y1 : Int32} {y2 : Int32}, g2 v_t y1 y2 = some res → ∀ {H : Heap} {locs : List Loc} {ls : Array Slot}, HP G A s [uX6 G o_t a_t v_t] H locs → lv_has ls 3 [(0, .ref o_t), (1, .int y1), (2, .int y2)] → W p l e (rmm 9) s m args below meth c H locs 0 0 (QI below G A args s (b2i res.1) [uX6 G o_t a_t res.2]) (F0 m 2 ls [])) (hf : b_X6_fitsWithout_2 N g2 v_t y1 y2 = some res) {H : Heap} {locs : List Loc} {ls : Array Slot} (h : HP G A s [uX6 G o_t a_t v_t] H locs) (hl : lv_has ls 3 [(0, .ref o_t), (1, .int y1), (2, .int y2)]) : W p l e (rmm 9) s m args below meth c H locs 0 0 (QI below G A args s (b2i res.1) [uX6 G o_t a_t res.2]) (F0 m 2 ls []) := by
  unfold b_X6_fitsWithout_2 at hf
  refine lv_iload_n C.hx C.hb dX6_fitsWithout_2 rfl (lv_at hl 2 rfl) ?_
  refine lv_bipush (v := 25) C.hx C.hb dX6_fitsWithout_3 (by decide) ?_
  refine lv_icmp_ge (tgt := 22) C.hx C.hb dX6_fitsWithout_5 (by decide) (fun zc1 => ?_) (fun zc1 => ?_)
  · replace hf := it_t zc1 hf
    refine lv_iconst (v := 0) C.hx C.hb dX6_fitsWithout_22 (by decide) ?_
    refine lv_istore_n (lv' := [(2, .int 0), (0, .ref o_t), (1, .int y1)]) C.hx C.hb dX6_fitsWithout_23 rfl hl (by decide) rfl (fun ls hl => ?_)
    exact l_X6_fitsWithout_24 C N hf h (lv_sub hl [1, 2, 0] rfl)
  · replace hf := it_f zc1 hf
    refine lv_aload_n C.hx C.hb dX6_fitsWithout_8 rfl (lv_at hl 0 rfl) ?_
    refine g_get C h fl_X6_29 0 0 rfl rfl (v := .ref (a_t 6)) rfl dX6_fitsWithout_9 ?_
    refine lv_iload_n C.hx C.hb dX6_fitsWithout_12 rfl (lv_at hl 2 rfl) ?_
    refine lv_ldc C.hx C.hb C.hown (C.hts _ cw_X6_101) dX6_fitsWithout_13 ?_
    obtain ⟨zi2, hf⟩ := ck_some hf
    refine g_iast C h 0 4 rfl rfl (f := v_t.2.2 6) zi2 dX6_fitsWithout_15 (u' := uX6 G o_t a_t (upa v_t 6 y2.toNatClampNeg 524287)) (us' := [uX6 G o_t a_t (upa v_t 6 y2.toNatClampNeg 524287)]) rfl rfl (fun H locs h => ?_)
    refine lv_iinc (v := y2 + 1) (lv' := [(2, .int (y2 + 1)), (0, .ref o_t), (1, .int y1)]) C.hx C.hb dX6_fitsWithout_16 hl (k := 2) rfl rfl (by decide) rfl (fun ls hl => ?_)
    refine lv_goto (tgt := 2) C.hx C.hb dX6_fitsWithout_19 (by decide) ?_
    exact hg2 hf h (lv_sub hl [1, 2, 0] rfl)
set_option maxRecDepth 100000 in
set_option maxHeartbeats 4000000 in
theorem l_X6_fitsWithout_2 {p : Program} {l : Launch} {e : Env} {s : State} {m : MethodId} {args : Array Value} {below : List Frame} {meth : Method} {c : Code} {G : GG} {A : Nat → Prop} {o_t : Nat} {a_t : Nat → Nat} {N : Nat}  {res : Bool × US} (C : MC RX6 cX6_fitsWithout 3 (some .boolean) G A p s m args meth c)  : ∀ (k : Nat) {v_t : US} {y1 : Int32} {y2 : Int32}, f_X6_fitsWithout_2 N k v_t y1 y2 = some res → ∀ {H : Heap} {locs : List Loc} {ls : Array Slot}, HP G A s [uX6 G o_t a_t v_t] H locs → lv_has ls 3 [(0, .ref o_t), (1, .int y1), (2, .int y2)] → W p l e (rmm 9) s m args below meth c H locs 0 0 (QI below G A args s (b2i res.1) [uX6 G o_t a_t res.2]) (F0 m 2 ls []) := by
  intro k
  induction k with
  | zero => intros; contradiction
  | succ k ih =>
    intro v_t y1 y2 hf H locs ls h hl
    exact w_X6_fitsWithout_2 (N := N) C ih hf h hl
set_option maxRecDepth 100000 in
set_option maxHeartbeats 4000000 in
theorem c_X6_fitsWithout (l : Launch) (G : GG) (o_t : Nat) (a_t : Nat → Nat) (N : Nat) {v_t : US} {x1 : Int32} {res : Bool × US} (hf : f_X6_fitsWithout N v_t x1 = some res) : MI l yX6_fitsWithout cX6_fitsWithout 3 (some .boolean) 9 [.ref o_t, .int x1] G [uX6 G o_t a_t v_t] (b2i res.1) [uX6 G o_t a_t res.2] := by
  unfold f_X6_fitsWithout at hf
  refine MI.intro (by decide) rfl (Nat.le_of_ble_eq_true rfl) (fun p e s m args below meth c A ls C h hl => ?_)
  have C : MC RX6 cX6_fitsWithout 3 (some .boolean) G A p s m args meth c := C
  have hl : lv_has ls 3 [(0, .ref o_t), (1, .int x1)] := hl
  refine lv_iconst (v := 0) C.hx C.hb dX6_fitsWithout_0 (by decide) ?_
  refine lv_istore_n (lv' := [(2, .int 0), (0, .ref o_t), (1, .int x1)]) C.hx C.hb dX6_fitsWithout_1 rfl hl (by decide) rfl (fun ls hl => ?_)
  exact l_X6_fitsWithout_2 C N hf h (lv_sub hl [1, 2, 0] rfl)

def b_X6_fewestGivenUp_41 (N : Nat) (g11 : US → Int32 → Int32 → Option (Int32 × US)) (v_t : US) (y1 : Int32) (y2 : Int32) (s0 : Int32) : Option (Int32 × US) :=
  if s0 = 0 then (g11 v_t y1 (y2 + 1)) else ((f_X6_fitsWithout N v_t y2).bind fun zr2 => if (b2i zr2.1) = 0 then (g11 zr2.2 y1 (y2 + 1)) else (g11 zr2.2 y2 (y2 + 1)))
def b_X6_fewestGivenUp_36 (N : Nat) (g11 : US → Int32 → Int32 → Option (Int32 × US)) (v_t : US) (y1 : Int32) (y2 : Int32) : Option (Int32 × US) :=
  b_X6_fewestGivenUp_41 N g11 v_t y1 y2 1
def b_X6_fewestGivenUp_11 (N : Nat) (g11 : US → Int32 → Int32 → Option (Int32 × US)) (v_t : US) (y1 : Int32) (y2 : Int32) : Option (Int32 × US) :=
  if (1 <<< ((v_t.1 2) &&& 31)) ≤ y2 then (some (y1, v_t)) else (if y2 = 0 then (b_X6_fewestGivenUp_36 N g11 v_t y1 y2) else ((f_J6_bitCount_0f7a4 y2).bind fun zr3 => (f_J6_bitCount_0f7a4 y1).bind fun zr6 => if zr6 ≤ zr3 then (b_X6_fewestGivenUp_41 N g11 v_t y1 y2 0) else (b_X6_fewestGivenUp_36 N g11 v_t y1 y2)))
def f_X6_fewestGivenUp_11 (N : Nat)  : Nat → US → Int32 → Int32 → Option (Int32 × US)
  | 0 => fun _ _ _ => none
  | k + 1 => fun q0 q1 q2 => b_X6_fewestGivenUp_11 N  (f_X6_fewestGivenUp_11 N  k) q0 q1 q2
def f_X6_fewestGivenUp (N : Nat) (v_t : US)  : Option (Int32 × US) :=
  f_X6_fewestGivenUp_11 N N v_t ((1 <<< ((v_t.1 2) &&& 31)) - 1) 0
set_option maxRecDepth 100000 in
set_option maxHeartbeats 4000000 in
theorem w_X6_fewestGivenUp_41 {p : Program} {l : Launch} {e : Env} {s : State} {m : MethodId} {args : Array Value} {below : List Frame} {meth : Method} {c : Code} {G : GG} {A : Nat → Prop} {o_t : Nat} {a_t : Nat → Nat} {N : Nat} {g11 : US → Int32 → Int32 → Option (Int32 × US)} {v_t : US} {y1 : Int32} {y2 : Int32} {s0 : Int32} {res : Int32 × US} (C : MC RX6 cX6_fewestGivenUp 4 (some .int) G A p s m args meth c) (hg11 : ∀ {v_t : US} {y1 : Int32} {y2 : Int32}, g11 v_t y1 y2 = some res → ∀ {H : Heap} {locs : List Loc} {ls : Array Slot}, HP G A s [uX6 G o_t a_t v_t] H locs → lv_has ls 4 [(0, .ref o_t), (1, .int y1), (2, .int y2)] → W p l e (rmm 10) s m args below meth c H locs 0 0 (QI below G A args s res.1 [uX6 G o_t a_t res.2]) (F0 m 11 ls [])) (hf : b_X6_fewestGivenUp_41 N g11 v_t y1 y2 s0 = some res) {H : Heap} {locs : List Loc} {ls : Array Slot} (h : HP G A s [uX6 G o_t a_t v_t] H locs) (hl : lv_has ls 4 [(0, .ref o_t), (1, .int y1), (2, .int y2)]) : W p l e (rmm 10) s m args below meth c H locs 0 0 (QI below G A args s res.1 [uX6 G o_t a_t res.2]) (F0 m 41 ls [.int s0]) := by
  unfold b_X6_fewestGivenUp_41 at hf
  refine lv_istore_n (lv' := [(3, .int s0), (0, .ref o_t), (1, .int y1), (2, .int y2)]) C.hx C.hb dX6_fewestGivenUp_41 rfl hl (by decide) rfl (fun ls hl => ?_)
  refine lv_iload_n C.hx C.hb dX6_fewestGivenUp_42 rfl (lv_at hl 0 rfl) ?_
  refine lv_if_eq (tgt := 56) C.hx C.hb dX6_fewestGivenUp_43 (by decide) (fun zc1 => ?_) (fun zc1 => ?_)
  · replace hf := it_t zc1 hf
    refine lv_iinc (v := y2 + 1) (lv' := [(2, .int (y2 + 1)), (3, .int s0), (0, .ref o_t), (1, .int y1)]) C.hx C.hb dX6_fewestGivenUp_56 hl (k := 3) rfl rfl (by decide) rfl (fun ls hl => ?_)
    refine lv_goto (tgt := 11) C.hx C.hb dX6_fewestGivenUp_59 (by decide) ?_
    exact hg11 hf h (lv_sub hl [2, 3, 0] rfl)
  · replace hf := it_f zc1 hf
    refine lv_aload_n C.hx C.hb dX6_fewestGivenUp_46 rfl (lv_at hl 1 rfl) ?_
    refine lv_iload_n C.hx C.hb dX6_fewestGivenUp_47 rfl (lv_at hl 3 rfl) ?_
    obtain ⟨zr2, zq3, hf⟩ := bd_some hf
    have zm4 := c_X6_fitsWithout l G o_t a_t N (hf := zq3)
    refine g_goI C h zm4.1 (is := [0]) rfl rfl (g_runV C h (is := [0]) rfl rfl (As := [.int y2]) (rest := []) (zm4.2 _) vf_X6_97 0 0 rfl rfl hl.1 rfl rfl (Nat.le_of_ble_eq_true rfl) dX6_fewestGivenUp_48 ⟨Nat.le_of_ble_eq_true rfl, Nat.le_of_ble_eq_true rfl⟩ ⟨Nat.le_refl _, Nat.le_refl _⟩) (us2 := [uX6 G o_t a_t zr2.2]) rfl (fun H locs h => ?_)
    refine lv_if_eq (tgt := 56) C.hx C.hb dX6_fewestGivenUp_51 (by decide) (fun zc5 => ?_) (fun zc5 => ?_)
    · replace hf := it_t zc5 hf
      refine lv_iinc (v := y2 + 1) (lv' := [(2, .int (y2 + 1)), (3, .int s0), (0, .ref o_t), (1, .int y1)]) C.hx C.hb dX6_fewestGivenUp_56 hl (k := 3) rfl rfl (by decide) rfl (fun ls hl => ?_)
      refine lv_goto (tgt := 11) C.hx C.hb dX6_fewestGivenUp_59 (by decide) ?_
      exact hg11 hf h (lv_sub hl [2, 3, 0] rfl)
    · replace hf := it_f zc5 hf
      refine lv_iload_n C.hx C.hb dX6_fewestGivenUp_54 rfl (lv_at hl 3 rfl) ?_
      refine lv_istore_n (lv' := [(1, .int y2), (3, .int s0), (0, .ref o_t), (2, .int y2)]) C.hx C.hb dX6_fewestGivenUp_55 rfl hl (by decide) rfl (fun ls hl => ?_)
      refine lv_iinc (v := y2 + 1) (lv' := [(2, .int (y2 + 1)), (1, .int y2), (3, .int s0), (0, .ref o_t)]) C.hx C.hb dX6_fewestGivenUp_56 hl (k := 3) rfl rfl (by decide) rfl (fun ls hl => ?_)
      refine lv_goto (tgt := 11) C.hx C.hb dX6_fewestGivenUp_59 (by decide) ?_
      exact hg11 hf h (lv_sub hl [3, 1, 0] rfl)
set_option maxRecDepth 100000 in
set_option maxHeartbeats 4000000 in
theorem w_X6_fewestGivenUp_36 {p : Program} {l : Launch} {e : Env} {s : State} {m : MethodId} {args : Array Value} {below : List Frame} {meth : Method} {c : Code} {G : GG} {A : Nat → Prop} {o_t : Nat} {a_t : Nat → Nat} {N : Nat} {g11 : US → Int32 → Int32 → Option (Int32 × US)} {v_t : US} {y1 : Int32} {y2 : Int32} {res : Int32 × US} (C : MC RX6 cX6_fewestGivenUp 4 (some .int) G A p s m args meth c) (hg11 : ∀ {v_t : US} {y1 : Int32} {y2 : Int32}, g11 v_t y1 y2 = some res → ∀ {H : Heap} {locs : List Loc} {ls : Array Slot}, HP G A s [uX6 G o_t a_t v_t] H locs → lv_has ls 4 [(0, .ref o_t), (1, .int y1), (2, .int y2)] → W p l e (rmm 10) s m args below meth c H locs 0 0 (QI below G A args s res.1 [uX6 G o_t a_t res.2]) (F0 m 11 ls [])) (hf : b_X6_fewestGivenUp_36 N g11 v_t y1 y2 = some res) {H : Heap} {locs : List Loc} {ls : Array Slot} (h : HP G A s [uX6 G o_t a_t v_t] H locs) (hl : lv_has ls 4 [(0, .ref o_t), (1, .int y1), (2, .int y2)]) : W p l e (rmm 10) s m args below meth c H locs 0 0 (QI below G A args s res.1 [uX6 G o_t a_t res.2]) (F0 m 36 ls []) := by
  unfold b_X6_fewestGivenUp_36 at hf
  refine lv_iconst (v := 1) C.hx C.hb dX6_fewestGivenUp_36 (by decide) ?_
  refine lv_goto (tgt := 41) C.hx C.hb dX6_fewestGivenUp_37 (by decide) ?_
  exact w_X6_fewestGivenUp_41 C hg11 hf h (lv_sub hl [0, 1, 2] rfl)
set_option maxRecDepth 100000 in
set_option maxHeartbeats 4000000 in
theorem w_X6_fewestGivenUp_11 {p : Program} {l : Launch} {e : Env} {s : State} {m : MethodId} {args : Array Value} {below : List Frame} {meth : Method} {c : Code} {G : GG} {A : Nat → Prop} {o_t : Nat} {a_t : Nat → Nat} {N : Nat} {g11 : US → Int32 → Int32 → Option (Int32 × US)} {v_t : US} {y1 : Int32} {y2 : Int32} {res : Int32 × US} (C : MC RX6 cX6_fewestGivenUp 4 (some .int) G A p s m args meth c) (hg11 : ∀ {v_t : US} {y1 : Int32} {y2 : Int32}, g11 v_t y1 y2 = some res → ∀ {H : Heap} {locs : List Loc} {ls : Array Slot}, HP G A s [uX6 G o_t a_t v_t] H locs → lv_has ls 4 [(0, .ref o_t), (1, .int y1), (2, .int y2)] → W p l e (rmm 10) s m args below meth c H locs 0 0 (QI below G A args s res.1 [uX6 G o_t a_t res.2]) (F0 m 11 ls [])) (hf : b_X6_fewestGivenUp_11 N g11 v_t y1 y2 = some res) {H : Heap} {locs : List Loc} {ls : Array Slot} (h : HP G A s [uX6 G o_t a_t v_t] H locs) (hl : lv_has ls 4 [(0, .ref o_t), (1, .int y1), (2, .int y2)]) : W p l e (rmm 10) s m args below meth c H locs 0 0 (QI below G A args s res.1 [uX6 G o_t a_t res.2]) (F0 m 11 ls []) := by
  unfold b_X6_fewestGivenUp_11 at hf
  refine lv_iload_n C.hx C.hb dX6_fewestGivenUp_11 rfl (lv_at hl 2 rfl) ?_
  refine lv_iconst (v := 1) C.hx C.hb dX6_fewestGivenUp_12 (by decide) ?_
  refine lv_aload_n C.hx C.hb dX6_fewestGivenUp_13 rfl (lv_at hl 0 rfl) ?_
  refine g_get C h fl_X6_15 0 0 rfl rfl (v := .int (v_t.1 2)) rfl dX6_fewestGivenUp_14 ?_
  refine lv_ishl C.hx C.hb dX6_fewestGivenUp_17 ?_
  refine lv_icmp_ge (tgt := 62) C.hx C.hb dX6_fewestGivenUp_18 (by decide) (fun zc1 => ?_) (fun zc1 => ?_)
  · replace hf := it_t zc1 hf
    refine lv_iload_n C.hx C.hb dX6_fewestGivenUp_62 rfl (lv_at hl 1 rfl) ?_
    obtain rfl := Option.some.inj hf
    exact g_ret_i C h rfl rfl dX6_fewestGivenUp_63
  · replace hf := it_f zc1 hf
    refine lv_iload_n C.hx C.hb dX6_fewestGivenUp_21 rfl (lv_at hl 2 rfl) ?_
    refine lv_if_eq (tgt := 36) C.hx C.hb dX6_fewestGivenUp_22 (by decide) (fun zc2 => ?_) (fun zc2 => ?_)
    · replace hf := it_t zc2 hf
      exact w_X6_fewestGivenUp_36 C hg11 hf h (lv_sub hl [0, 1, 2] rfl)
    · replace hf := it_f zc2 hf
      refine lv_iload_n C.hx C.hb dX6_fewestGivenUp_25 rfl (lv_at hl 2 rfl) ?_
      obtain ⟨zr3, zq4, hf⟩ := bd_some hf
      have zm5 := c_J6_bitCount_0f7a4 l G  (hf := zq4)
      refine g_goI C h zm5.1 (is := []) rfl rfl (g_runT C h (is := []) rfl rfl (As := [.int y2]) (rest := []) (zm5.2 _) tf_X6_91 hl.1 rfl rfl (Nat.le_of_ble_eq_true rfl) dX6_fewestGivenUp_26 ⟨Nat.le_of_ble_eq_true rfl, Nat.le_of_ble_eq_true rfl⟩ ⟨Nat.le_refl _, Nat.le_refl _⟩) (us2 := [uX6 G o_t a_t v_t]) rfl (fun H locs h => ?_)
      refine lv_iload_n C.hx C.hb dX6_fewestGivenUp_29 rfl (lv_at hl 1 rfl) ?_
      obtain ⟨zr6, zq7, hf⟩ := bd_some hf
      have zm8 := c_J6_bitCount_0f7a4 l G  (hf := zq7)
      refine g_goI C h zm8.1 (is := []) rfl rfl (g_runT C h (is := []) rfl rfl (As := [.int y1]) (rest := [.int zr3]) (zm8.2 _) tf_X6_91 hl.1 rfl rfl (Nat.le_of_ble_eq_true rfl) dX6_fewestGivenUp_30 ⟨Nat.le_of_ble_eq_true rfl, Nat.le_of_ble_eq_true rfl⟩ ⟨Nat.le_refl _, Nat.le_refl _⟩) (us2 := [uX6 G o_t a_t v_t]) rfl (fun H locs h => ?_)
      refine lv_icmp_ge (tgt := 40) C.hx C.hb dX6_fewestGivenUp_33 (by decide) (fun zc9 => ?_) (fun zc9 => ?_)
      · replace hf := it_t zc9 hf
        refine lv_iconst (v := 0) C.hx C.hb dX6_fewestGivenUp_40 (by decide) ?_
        exact w_X6_fewestGivenUp_41 C hg11 hf h (lv_sub hl [0, 1, 2] rfl)
      · replace hf := it_f zc9 hf
        exact w_X6_fewestGivenUp_36 C hg11 hf h (lv_sub hl [0, 1, 2] rfl)
set_option maxRecDepth 100000 in
set_option maxHeartbeats 4000000 in
theorem l_X6_fewestGivenUp_11 {p : Program} {l : Launch} {e : Env} {s : State} {m : MethodId} {args : Array Value} {below : List Frame} {meth : Method} {c : Code} {G : GG} {A : Nat → Prop} {o_t : Nat} {a_t : Nat → Nat} {N : Nat}  {res : Int32 × US} (C : MC RX6 cX6_fewestGivenUp 4 (some .int) G A p s m args meth c)  : ∀ (k : Nat) {v_t : US} {y1 : Int32} {y2 : Int32}, f_X6_fewestGivenUp_11 N k v_t y1 y2 = some res → ∀ {H : Heap} {locs : List Loc} {ls : Array Slot}, HP G A s [uX6 G o_t a_t v_t] H locs → lv_has ls 4 [(0, .ref o_t), (1, .int y1), (2, .int y2)] → W p l e (rmm 10) s m args below meth c H locs 0 0 (QI below G A args s res.1 [uX6 G o_t a_t res.2]) (F0 m 11 ls []) := by
  intro k
  induction k with
  | zero => intros; contradiction
  | succ k ih =>
    intro v_t y1 y2 hf H locs ls h hl
    exact w_X6_fewestGivenUp_11 (N := N) C ih hf h hl
set_option maxRecDepth 100000 in
set_option maxHeartbeats 4000000 in
theorem c_X6_fewestGivenUp (l : Launch) (G : GG) (o_t : Nat) (a_t : Nat → Nat) (N : Nat) {v_t : US}  {res : Int32 × US} (hf : f_X6_fewestGivenUp N v_t = some res) : MI l yX6_fewestGivenUp cX6_fewestGivenUp 4 (some .int) 10 [.ref o_t] G [uX6 G o_t a_t v_t] res.1 [uX6 G o_t a_t res.2] := by
  unfold f_X6_fewestGivenUp at hf
  refine MI.intro (by decide) rfl (Nat.le_of_ble_eq_true rfl) (fun p e s m args below meth c A ls C h hl => ?_)
  have C : MC RX6 cX6_fewestGivenUp 4 (some .int) G A p s m args meth c := C
  have hl : lv_has ls 4 [(0, .ref o_t)] := hl
  refine lv_iconst (v := 1) C.hx C.hb dX6_fewestGivenUp_0 (by decide) ?_
  refine lv_aload_n C.hx C.hb dX6_fewestGivenUp_1 rfl (lv_at hl 0 rfl) ?_
  refine g_get C h fl_X6_15 0 0 rfl rfl (v := .int (v_t.1 2)) rfl dX6_fewestGivenUp_2 ?_
  refine lv_ishl C.hx C.hb dX6_fewestGivenUp_5 ?_
  refine lv_iconst (v := 1) C.hx C.hb dX6_fewestGivenUp_6 (by decide) ?_
  refine lv_isub C.hx C.hb dX6_fewestGivenUp_7 ?_
  refine lv_istore_n (lv' := [(1, .int ((1 <<< ((v_t.1 2) &&& 31)) - 1)), (0, .ref o_t)]) C.hx C.hb dX6_fewestGivenUp_8 rfl hl (by decide) rfl (fun ls hl => ?_)
  refine lv_iconst (v := 0) C.hx C.hb dX6_fewestGivenUp_9 (by decide) ?_
  refine lv_istore_n (lv' := [(2, .int 0), (1, .int ((1 <<< ((v_t.1 2) &&& 31)) - 1)), (0, .ref o_t)]) C.hx C.hb dX6_fewestGivenUp_10 rfl hl (by decide) rfl (fun ls hl => ?_)
  exact l_X6_fewestGivenUp_11 C N hf h (lv_sub hl [2, 1, 0] rfl)

def f_X6_isSo (v_t : US) (v_p1 : US) (x2 : Int32) (x3 : Int32) (x4 : Int32) : Option (Bool) :=
  if x2 < 0 ∨ 4 ≤ x2.toNatClampNeg then none else (if x3 < 0 ∨ 5 ≤ x3.toNatClampNeg then none else (if x3 < 0 ∨ 5 ≤ x3.toNatClampNeg then none else (if x2 < 0 ∨ 4 ≤ x2.toNatClampNeg then none else ((f_X11_has ((v_p1.2.2 14) x2.toNatClampNeg) x3).bind fun zr6 => if (b2i (kBec ((v_p1.2.2 1) x3.toNatClampNeg) false (if 0 < (((v_p1.2.2 13) x2.toNatClampNeg) - x4) then (((v_p1.2.2 13) x2.toNatClampNeg) - x4) else 0) ((v_p1.2.2 3) x3.toNatClampNeg))) = (b2i zr6) then (some (true)) else (some (false))))))
set_option maxRecDepth 100000 in
set_option maxHeartbeats 4000000 in
theorem c_X6_isSo (l : Launch) (G : GG) (o_t o_p1 : Nat) (a_p1 a_t a_t_kinds : Nat → Nat) {v_t : US} {v_p1 : US} {x2 : Int32} {x3 : Int32} {x4 : Int32} {res : Bool} (hf : f_X6_isSo v_t v_p1 x2 x3 x4 = some res) : MI l yX6_isSo cX6_isSo 7 (some .boolean) 4 [.ref o_t, .ref o_p1, .int x2, .int x3, .int x4] G [uX6 G o_t a_t v_t, uX9 G o_p1 a_p1 v_p1, uX2 G (a_t 0) a_t_kinds] (b2i res) [uX6 G o_t a_t v_t, uX9 G o_p1 a_p1 v_p1, uX2 G (a_t 0) a_t_kinds] := by
  unfold f_X6_isSo at hf
  refine MI.intro (by decide) rfl (Nat.le_of_ble_eq_true rfl) (fun p e s m args below meth c A ls C h hl => ?_)
  have C : MC RX6 cX6_isSo 7 (some .boolean) G A p s m args meth c := C
  have hl : lv_has ls 7 [(0, .ref o_t), (1, .ref o_p1), (2, .int x2), (3, .int x3), (4, .int x4)] := hl
  refine lv_iconst (v := 0) C.hx C.hb dX6_isSo_0 (by decide) ?_
  refine lv_aload_n C.hx C.hb dX6_isSo_1 rfl (lv_at hl 1 rfl) ?_
  refine g_get C h fl_X6_57 1 0 rfl rfl (v := .ref (a_p1 13)) rfl dX6_isSo_2 ?_
  refine lv_iload_n C.hx C.hb dX6_isSo_5 rfl (lv_at hl 2 rfl) ?_
  obtain ⟨zi1, hf⟩ := ck_some hf
  refine g_iald C h 1 8 rfl rfl (f := v_p1.2.2 13) zi1 dX6_isSo_6 ?_
  refine lv_iload C.hx C.hb dX6_isSo_7 (lv_at hl 4 rfl) ?_
  refine lv_isub C.hx C.hb dX6_isSo_9 ?_
  refine g_max C hl.1 ml_X6_60 ms_max mi_math mc_max (Nat.le_of_ble_eq_true rfl) (Nat.le_of_ble_eq_true rfl) ⟨Nat.le_refl _, Nat.le_refl _⟩ dX6_isSo_10 (v := if 0 < (((v_p1.2.2 13) x2.toNatClampNeg) - x4) then (((v_p1.2.2 13) x2.toNatClampNeg) - x4) else 0) rfl ?_
  refine lv_istore (lv' := [(5, .int (if 0 < (((v_p1.2.2 13) x2.toNatClampNeg) - x4) then (((v_p1.2.2 13) x2.toNatClampNeg) - x4) else 0)), (0, .ref o_t), (1, .ref o_p1), (2, .int x2), (3, .int x3), (4, .int x4)]) C.hx C.hb dX6_isSo_13 hl (by decide) rfl (fun ls hl => ?_)
  refine lv_aload_n C.hx C.hb dX6_isSo_15 rfl (lv_at hl 1 rfl) ?_
  refine g_get C h fl_X6_38 0 0 rfl rfl (v := .ref (a_t 0)) rfl dX6_isSo_16 ?_
  refine lv_aload_n C.hx C.hb dX6_isSo_19 rfl (lv_at hl 2 rfl) ?_
  refine g_get C h fl_X6_66 1 0 rfl rfl (v := .ref (a_p1 1)) rfl dX6_isSo_20 ?_
  refine lv_iload_n C.hx C.hb dX6_isSo_23 rfl (lv_at hl 4 rfl) ?_
  obtain ⟨zi2, hf⟩ := ck_some hf
  refine g_iald C h 1 1 rfl rfl (f := v_p1.2.2 1) zi2 dX6_isSo_24 ?_
  have zm3 := c_X2_ofNumber l G (a_t 0) a_t_kinds ((v_p1.2.2 1) x3.toNatClampNeg)
  refine g_goR C h zm3.1 (is := [2]) rfl rfl (g_runV C h (is := [2]) rfl rfl (As := [.int ((v_p1.2.2 1) x3.toNatClampNeg)]) (rest := []) (zm3.2 _) vf_X6_69 2 0 rfl rfl hl.1 rfl rfl (Nat.le_of_ble_eq_true rfl) dX6_isSo_25 ⟨Nat.le_of_ble_eq_true rfl, Nat.le_of_ble_eq_true rfl⟩ ⟨Nat.le_refl _, Nat.le_refl _⟩) (us2 := [uX6 G o_t a_t v_t, uX9 G o_p1 a_p1 v_p1, uX2 G (a_t 0) a_t_kinds]) rfl (fun H locs h => ?_)
  refine lv_iconst (v := 0) C.hx C.hb dX6_isSo_28 (by decide) ?_
  refine lv_iload C.hx C.hb dX6_isSo_29 (lv_at hl 0 rfl) ?_
  refine lv_aload_n C.hx C.hb dX6_isSo_31 rfl (lv_at hl 2 rfl) ?_
  refine g_get C h fl_X6_75 1 0 rfl rfl (v := .ref (a_p1 3)) rfl dX6_isSo_32 ?_
  refine lv_iload_n C.hx C.hb dX6_isSo_35 rfl (lv_at hl 4 rfl) ?_
  obtain ⟨zi4, hf⟩ := ck_some hf
  refine g_iald C h 1 3 rfl rfl (f := v_p1.2.2 3) zi4 dX6_isSo_36 ?_
  refine g_becomes C h bf_X6_78 2 rfl (rest := []) (z := false) hl.1 (Nat.le_of_ble_eq_true rfl) dX6_isSo_37 ⟨Nat.le_of_ble_eq_true rfl, Nat.le_of_ble_eq_true rfl, Nat.le_refl _, Nat.le_refl _⟩ (fun H locs h => ?_)
  refine lv_istore (lv' := [(6, .int (b2i (kBec ((v_p1.2.2 1) x3.toNatClampNeg) false (if 0 < (((v_p1.2.2 13) x2.toNatClampNeg) - x4) then (((v_p1.2.2 13) x2.toNatClampNeg) - x4) else 0) ((v_p1.2.2 3) x3.toNatClampNeg)))), (5, .int (if 0 < (((v_p1.2.2 13) x2.toNatClampNeg) - x4) then (((v_p1.2.2 13) x2.toNatClampNeg) - x4) else 0)), (0, .ref o_t), (1, .ref o_p1), (2, .int x2), (3, .int x3), (4, .int x4)]) C.hx C.hb dX6_isSo_40 hl (by decide) rfl (fun ls hl => ?_)
  refine lv_iload C.hx C.hb dX6_isSo_42 (lv_at hl 0 rfl) ?_
  refine lv_aload_n C.hx C.hb dX6_isSo_44 rfl (lv_at hl 3 rfl) ?_
  refine g_get C h fl_X6_84 1 0 rfl rfl (v := .ref (a_p1 14)) rfl dX6_isSo_45 ?_
  refine lv_iload_n C.hx C.hb dX6_isSo_48 rfl (lv_at hl 4 rfl) ?_
  obtain ⟨zi5, hf⟩ := ck_some hf
  refine g_iald C h 1 9 rfl rfl (f := v_p1.2.2 14) zi5 dX6_isSo_49 ?_
  refine lv_iload_n C.hx C.hb dX6_isSo_50 rfl (lv_at hl 5 rfl) ?_
  obtain ⟨zr6, zq7, hf⟩ := bd_some hf
  have zm8 := c_X11_has l G  (hf := zq7)
  refine g_goI C h zm8.1 (is := []) rfl rfl (g_runN C h (is := []) rfl rfl (As := [.int ((v_p1.2.2 14) x2.toNatClampNeg), .int x3]) (rest := [.int (b2i (kBec ((v_p1.2.2 1) x3.toNatClampNeg) false (if 0 < (((v_p1.2.2 13) x2.toNatClampNeg) - x4) then (((v_p1.2.2 13) x2.toNatClampNeg) - x4) else 0) ((v_p1.2.2 3) x3.toNatClampNeg)))]) (zm8.2 _) nf_X6_87 hl.1 rfl rfl (Nat.le_of_ble_eq_true rfl) dX6_isSo_51 ⟨Nat.le_of_ble_eq_true rfl, Nat.le_of_ble_eq_true rfl⟩ ⟨Nat.le_refl _, Nat.le_refl _⟩) (us2 := [uX6 G o_t a_t v_t, uX9 G o_p1 a_p1 v_p1, uX2 G (a_t 0) a_t_kinds]) rfl (fun H locs h => ?_)
  refine lv_icmp_ne (tgt := 61) C.hx C.hb dX6_isSo_54 (by decide) (fun zc9 => ?_) (fun zc9 => ?_)
  · replace hf := it_f zc9 hf
    refine lv_iconst (v := 0) C.hx C.hb dX6_isSo_61 (by decide) ?_
    obtain rfl := Option.some.inj hf
    exact g_ret_z (b := false) C h rfl rfl rfl dX6_isSo_62
  · replace hf := it_t zc9 hf
    refine lv_iconst (v := 1) C.hx C.hb dX6_isSo_57 (by decide) ?_
    refine lv_goto (tgt := 62) C.hx C.hb dX6_isSo_58 (by decide) ?_
    obtain rfl := Option.some.inj hf
    exact g_ret_z (b := true) C h rfl rfl rfl dX6_isSo_62

def b_X6_sumsFor_6 (N : Nat) (g6 : US → US → Int32 → Int32 → Int32 → Int32 → Option (Int32)) (v_t : US) (v_p1 : US) (y2 : Int32) (y3 : Int32) (y4 : Int32) (y5 : Int32) : Option (Int32) :=
  if 19 ≤ y5 then (some (y4)) else ((f_X6_isSo v_t v_p1 y2 y3 y5).bind fun zr2 => if (b2i zr2) = 0 then (g6 v_t v_p1 y2 y3 y4 (y5 + 1)) else (g6 v_t v_p1 y2 y3 (y4 ||| (1 <<< (y5 &&& 31))) (y5 + 1)))
def f_X6_sumsFor_6 (N : Nat)  : Nat → US → US → Int32 → Int32 → Int32 → Int32 → Option (Int32)
  | 0 => fun _ _ _ _ _ _ => none
  | k + 1 => fun q0 q1 q2 q3 q4 q5 => b_X6_sumsFor_6 N  (f_X6_sumsFor_6 N  k) q0 q1 q2 q3 q4 q5
def f_X6_sumsFor (N : Nat) (v_t : US) (v_p1 : US) (x2 : Int32) (x3 : Int32) : Option (Int32) :=
  f_X6_sumsFor_6 N N v_t v_p1 x2 x3 0 0
set_option maxRecDepth 100000 in
set_option maxHeartbeats 4000000 in
theorem w_X6_sumsFor_6 {p : Program} {l : Launch} {e : Env} {s : State} {m : MethodId} {args : Array Value} {below : List Frame} {meth : Method} {c : Code} {G : GG} {A : Nat → Prop} {o_t o_p1 : Nat} {a_p1 a_t a_t_kinds : Nat → Nat} {N : Nat} {g6 : US → US → Int32 → Int32 → Int32 → Int32 → Option (Int32)} {v_t : US} {v_p1 : US} {y2 : Int32} {y3 : Int32} {y4 : Int32} {y5 : Int32} {res : Int32} (C : MC RX6 cX6_sumsFor 6 (some .int) G A p s m args meth c) (hg6 : ∀ {v_t : US} {v_p1 : US} {y2 : Int32} {y3 : Int32} {y4 : Int32} {y5 : Int32}, g6 v_t v_p1 y2 y3 y4 y5 = some res → ∀ {H : Heap} {locs : List Loc} {ls : Array Slot}, HP G A s [uX6 G o_t a_t v_t, uX9 G o_p1 a_p1 v_p1, uX2 G (a_t 0) a_t_kinds] H locs → lv_has ls 6 [(0, .ref o_t), (1, .ref o_p1), (2, .int y2), (3, .int y3), (4, .int y4), (5, .int y5)] → W p l e (rmm 5) s m args below meth c H locs 0 0 (QI below G A args s res [uX6 G o_t a_t v_t, uX9 G o_p1 a_p1 v_p1, uX2 G (a_t 0) a_t_kinds]) (F0 m 6 ls [])) (hf : b_X6_sumsFor_6 N g6 v_t v_p1 y2 y3 y4 y5 = some res) {H : Heap} {locs : List Loc} {ls : Array Slot} (h : HP G A s [uX6 G o_t a_t v_t, uX9 G o_p1 a_p1 v_p1, uX2 G (a_t 0) a_t_kinds] H locs) (hl : lv_has ls 6 [(0, .ref o_t), (1, .ref o_p1), (2, .int y2), (3, .int y3), (4, .int y4), (5, .int y5)]) : W p l e (rmm 5) s m args below meth c H locs 0 0 (QI below G A args s res [uX6 G o_t a_t v_t, uX9 G o_p1 a_p1 v_p1, uX2 G (a_t 0) a_t_kinds]) (F0 m 6 ls []) := by
  unfold b_X6_sumsFor_6 at hf
  refine lv_iload C.hx C.hb dX6_sumsFor_6 (lv_at hl 5 rfl) ?_
  refine lv_bipush (v := 19) C.hx C.hb dX6_sumsFor_8 (by decide) ?_
  refine lv_icmp_ge (tgt := 40) C.hx C.hb dX6_sumsFor_10 (by decide) (fun zc1 => ?_) (fun zc1 => ?_)
  · replace hf := it_t zc1 hf
    refine lv_iload C.hx C.hb dX6_sumsFor_40 (lv_at hl 4 rfl) ?_
    obtain rfl := Option.some.inj hf
    exact g_ret_i C h rfl rfl dX6_sumsFor_42
  · replace hf := it_f zc1 hf
    refine lv_aload_n C.hx C.hb dX6_sumsFor_13 rfl (lv_at hl 0 rfl) ?_
    refine lv_aload_n C.hx C.hb dX6_sumsFor_14 rfl (lv_at hl 1 rfl) ?_
    refine lv_iload_n C.hx C.hb dX6_sumsFor_15 rfl (lv_at hl 2 rfl) ?_
    refine lv_iload_n C.hx C.hb dX6_sumsFor_16 rfl (lv_at hl 3 rfl) ?_
    refine lv_iload C.hx C.hb dX6_sumsFor_17 (lv_at hl 5 rfl) ?_
    obtain ⟨zr2, zq3, hf⟩ := bd_some hf
    have zm4 := c_X6_isSo l G o_t o_p1 a_p1 a_t a_t_kinds (hf := zq3)
    refine g_goI C h zm4.1 (is := [0, 1, 2]) rfl rfl (g_runV C h (is := [0, 1, 2]) rfl rfl (As := [.ref o_p1, .int y2, .int y3, .int y5]) (rest := []) (zm4.2 _) vf_X6_49 0 0 rfl rfl hl.1 rfl rfl (Nat.le_of_ble_eq_true rfl) dX6_sumsFor_19 ⟨Nat.le_of_ble_eq_true rfl, Nat.le_of_ble_eq_true rfl⟩ ⟨Nat.le_refl _, Nat.le_refl _⟩) (us2 := [uX6 G o_t a_t v_t, uX9 G o_p1 a_p1 v_p1, uX2 G (a_t 0) a_t_kinds]) rfl (fun H locs h => ?_)
    refine lv_if_eq (tgt := 34) C.hx C.hb dX6_sumsFor_22 (by decide) (fun zc5 => ?_) (fun zc5 => ?_)
    · replace hf := it_t zc5 hf
      refine lv_iinc (v := y5 + 1) (lv' := [(5, .int (y5 + 1)), (0, .ref o_t), (1, .ref o_p1), (2, .int y2), (3, .int y3), (4, .int y4)]) C.hx C.hb dX6_sumsFor_34 hl (k := 5) rfl rfl (by decide) rfl (fun ls hl => ?_)
      refine lv_goto (tgt := 6) C.hx C.hb dX6_sumsFor_37 (by decide) ?_
      exact hg6 hf h (lv_sub hl [1, 2, 3, 4, 5, 0] rfl)
    · replace hf := it_f zc5 hf
      refine lv_iload C.hx C.hb dX6_sumsFor_25 (lv_at hl 4 rfl) ?_
      refine lv_iconst (v := 1) C.hx C.hb dX6_sumsFor_27 (by decide) ?_
      refine lv_iload C.hx C.hb dX6_sumsFor_28 (lv_at hl 5 rfl) ?_
      refine lv_ishl C.hx C.hb dX6_sumsFor_30 ?_
      refine lv_ior C.hx C.hb dX6_sumsFor_31 ?_
      refine lv_istore (lv' := [(4, .int (y4 ||| (1 <<< (y5 &&& 31)))), (0, .ref o_t), (1, .ref o_p1), (2, .int y2), (3, .int y3), (5, .int y5)]) C.hx C.hb dX6_sumsFor_32 hl (by decide) rfl (fun ls hl => ?_)
      refine lv_iinc (v := y5 + 1) (lv' := [(5, .int (y5 + 1)), (4, .int (y4 ||| (1 <<< (y5 &&& 31)))), (0, .ref o_t), (1, .ref o_p1), (2, .int y2), (3, .int y3)]) C.hx C.hb dX6_sumsFor_34 hl (k := 5) rfl rfl (by decide) rfl (fun ls hl => ?_)
      refine lv_goto (tgt := 6) C.hx C.hb dX6_sumsFor_37 (by decide) ?_
      exact hg6 hf h (lv_sub hl [2, 3, 4, 5, 1, 0] rfl)
set_option maxRecDepth 100000 in
set_option maxHeartbeats 4000000 in
theorem l_X6_sumsFor_6 {p : Program} {l : Launch} {e : Env} {s : State} {m : MethodId} {args : Array Value} {below : List Frame} {meth : Method} {c : Code} {G : GG} {A : Nat → Prop} {o_t o_p1 : Nat} {a_p1 a_t a_t_kinds : Nat → Nat} {N : Nat}  {res : Int32} (C : MC RX6 cX6_sumsFor 6 (some .int) G A p s m args meth c)  : ∀ (k : Nat) {v_t : US} {v_p1 : US} {y2 : Int32} {y3 : Int32} {y4 : Int32} {y5 : Int32}, f_X6_sumsFor_6 N k v_t v_p1 y2 y3 y4 y5 = some res → ∀ {H : Heap} {locs : List Loc} {ls : Array Slot}, HP G A s [uX6 G o_t a_t v_t, uX9 G o_p1 a_p1 v_p1, uX2 G (a_t 0) a_t_kinds] H locs → lv_has ls 6 [(0, .ref o_t), (1, .ref o_p1), (2, .int y2), (3, .int y3), (4, .int y4), (5, .int y5)] → W p l e (rmm 5) s m args below meth c H locs 0 0 (QI below G A args s res [uX6 G o_t a_t v_t, uX9 G o_p1 a_p1 v_p1, uX2 G (a_t 0) a_t_kinds]) (F0 m 6 ls []) := by
  intro k
  induction k with
  | zero => intros; contradiction
  | succ k ih =>
    intro v_t v_p1 y2 y3 y4 y5 hf H locs ls h hl
    exact w_X6_sumsFor_6 (N := N) C ih hf h hl
set_option maxRecDepth 100000 in
set_option maxHeartbeats 4000000 in
theorem c_X6_sumsFor (l : Launch) (G : GG) (o_t o_p1 : Nat) (a_p1 a_t a_t_kinds : Nat → Nat) (N : Nat) {v_t : US} {v_p1 : US} {x2 : Int32} {x3 : Int32} {res : Int32} (hf : f_X6_sumsFor N v_t v_p1 x2 x3 = some res) : MI l yX6_sumsFor cX6_sumsFor 6 (some .int) 5 [.ref o_t, .ref o_p1, .int x2, .int x3] G [uX6 G o_t a_t v_t, uX9 G o_p1 a_p1 v_p1, uX2 G (a_t 0) a_t_kinds] res [uX6 G o_t a_t v_t, uX9 G o_p1 a_p1 v_p1, uX2 G (a_t 0) a_t_kinds] := by
  unfold f_X6_sumsFor at hf
  refine MI.intro (by decide) rfl (Nat.le_of_ble_eq_true rfl) (fun p e s m args below meth c A ls C h hl => ?_)
  have C : MC RX6 cX6_sumsFor 6 (some .int) G A p s m args meth c := C
  have hl : lv_has ls 6 [(0, .ref o_t), (1, .ref o_p1), (2, .int x2), (3, .int x3)] := hl
  refine lv_iconst (v := 0) C.hx C.hb dX6_sumsFor_0 (by decide) ?_
  refine lv_istore (lv' := [(4, .int 0), (0, .ref o_t), (1, .ref o_p1), (2, .int x2), (3, .int x3)]) C.hx C.hb dX6_sumsFor_1 hl (by decide) rfl (fun ls hl => ?_)
  refine lv_iconst (v := 0) C.hx C.hb dX6_sumsFor_3 (by decide) ?_
  refine lv_istore (lv' := [(5, .int 0), (4, .int 0), (0, .ref o_t), (1, .ref o_p1), (2, .int x2), (3, .int x3)]) C.hx C.hb dX6_sumsFor_4 hl (by decide) rfl (fun ls hl => ?_)
  exact l_X6_sumsFor_6 C N hf h (lv_sub hl [2, 3, 4, 5, 1, 0] rfl)

def b_X6_learn_57 (N : Nat) (g18 : US → US → Int32 → Option (US)) (g57 : US → US → Int32 → Int32 → Option (US)) (v_t : US) (v_p1 : US) (y2 : Int32) (y4 : Int32) : Option (US) :=
  if (v_t.1 1) ≤ y4 then (g18 v_t v_p1 (y2 + 1)) else ((f_X6_sumsFor N v_t v_p1 y2 y4).bind fun zr2 => if ((y2 * 5) + y4) < 0 ∨ 20 ≤ ((y2 * 5) + y4).toNatClampNeg then none else (g57 (upa v_t 5 (((y2 * 5) + y4).toNatClampNeg) zr2) v_p1 y2 (y4 + 1)))
def f_X6_learn_57 (N : Nat) (g18 : US → US → Int32 → Option (US)) : Nat → US → US → Int32 → Int32 → Option (US)
  | 0 => fun _ _ _ _ => none
  | k + 1 => fun q0 q1 q2 q3 => b_X6_learn_57 N g18 (f_X6_learn_57 N g18 k) q0 q1 q2 q3
def b_X6_learn_18 (N : Nat) (g18 : US → US → Int32 → Option (US)) (v_t : US) (v_p1 : US) (y2 : Int32) : Option (US) :=
  if (v_t.1 2) ≤ y2 then (some (v_t)) else (if y2 < 0 ∨ 4 ≤ y2.toNatClampNeg then none else (if y2 < 0 ∨ 4 ≤ y2.toNatClampNeg then none else ((f_X6_isSo (upa v_t 3 y2.toNatClampNeg ((v_p1.2.2 12) y2.toNatClampNeg)) v_p1 y2 ((v_p1.2.2 12) y2.toNatClampNeg) 0).bind fun zr4 => bnd (upa v_t 3 y2.toNatClampNeg ((v_p1.2.2 12) y2.toNatClampNeg)) fun zw7 => if y2 < 0 ∨ 4 ≤ y2.toNatClampNeg then none else (f_X6_learn_57 N g18 N (upa zw7 4 y2.toNatClampNeg (b2i zr4)) v_p1 y2 0))))
def f_X6_learn_18 (N : Nat)  : Nat → US → US → Int32 → Option (US)
  | 0 => fun _ _ _ => none
  | k + 1 => fun q0 q1 q2 => b_X6_learn_18 N  (f_X6_learn_18 N  k) q0 q1 q2
def f_X6_learn (N : Nat) (v_t : US) (v_p1 : US)  : Option (US) :=
  bnd (upi v_t 1 (v_p1.1 0)) fun zw1 => f_X6_learn_18 N N (upi zw1 2 (v_p1.1 11)) v_p1 0
set_option maxRecDepth 100000 in
set_option maxHeartbeats 4000000 in
theorem w_X6_learn_57 {p : Program} {l : Launch} {e : Env} {s : State} {m : MethodId} {args : Array Value} {below : List Frame} {meth : Method} {c : Code} {G : GG} {A : Nat → Prop} {o_t o_p1 : Nat} {a_p1 a_t a_t_kinds : Nat → Nat} {N : Nat} {g18 : US → US → Int32 → Option (US)} {g57 : US → US → Int32 → Int32 → Option (US)} {v_t : US} {v_p1 : US} {y2 : Int32} {y4 : Int32} {res : US} (C : MC RX6 cX6_learn 5 none G A p s m args meth c) (hg18 : ∀ {v_t : US} {v_p1 : US} {y2 : Int32}, g18 v_t v_p1 y2 = some res → ∀ {H : Heap} {locs : List Loc} {ls : Array Slot}, HP G A s [uX6 G o_t a_t v_t, uX9 G o_p1 a_p1 v_p1, uX2 G (a_t 0) a_t_kinds] H locs → lv_has ls 5 [(0, .ref o_t), (1, .ref o_p1), (2, .int y2)] → W p l e (rmm 6) s m args below meth c H locs 0 0 (QV below G A args s  [uX6 G o_t a_t res, uX9 G o_p1 a_p1 v_p1, uX2 G (a_t 0) a_t_kinds]) (F0 m 18 ls [])) (hg57 : ∀ {v_t : US} {v_p1 : US} {y2 : Int32} {y4 : Int32}, g57 v_t v_p1 y2 y4 = some res → ∀ {H : Heap} {locs : List Loc} {ls : Array Slot}, HP G A s [uX6 G o_t a_t v_t, uX9 G o_p1 a_p1 v_p1, uX2 G (a_t 0) a_t_kinds] H locs → lv_has ls 5 [(0, .ref o_t), (1, .ref o_p1), (2, .int y2), (4, .int y4)] → W p l e (rmm 6) s m args below meth c H locs 0 0 (QV below G A args s  [uX6 G o_t a_t res, uX9 G o_p1 a_p1 v_p1, uX2 G (a_t 0) a_t_kinds]) (F0 m 57 ls [])) (hf : b_X6_learn_57 N g18 g57 v_t v_p1 y2 y4 = some res) {H : Heap} {locs : List Loc} {ls : Array Slot} (h : HP G A s [uX6 G o_t a_t v_t, uX9 G o_p1 a_p1 v_p1, uX2 G (a_t 0) a_t_kinds] H locs) (hl : lv_has ls 5 [(0, .ref o_t), (1, .ref o_p1), (2, .int y2), (4, .int y4)]) : W p l e (rmm 6) s m args below meth c H locs 0 0 (QV below G A args s  [uX6 G o_t a_t res, uX9 G o_p1 a_p1 v_p1, uX2 G (a_t 0) a_t_kinds]) (F0 m 57 ls []) := by
  unfold b_X6_learn_57 at hf
  refine lv_iload C.hx C.hb dX6_learn_57 (lv_at hl 3 rfl) ?_
  refine lv_aload_n C.hx C.hb dX6_learn_59 rfl (lv_at hl 0 rfl) ?_
  refine g_get C h fl_X6_11 0 0 rfl rfl (v := .int (v_t.1 1)) rfl dX6_learn_60 ?_
  refine lv_icmp_ge (tgt := 91) C.hx C.hb dX6_learn_63 (by decide) (fun zc1 => ?_) (fun zc1 => ?_)
  · replace hf := it_t zc1 hf
    refine lv_iinc (v := y2 + 1) (lv' := [(2, .int (y2 + 1)), (0, .ref o_t), (1, .ref o_p1), (4, .int y4)]) C.hx C.hb dX6_learn_91 hl (k := 2) rfl rfl (by decide) rfl (fun ls hl => ?_)
    refine lv_goto (tgt := 18) C.hx C.hb dX6_learn_94 (by decide) ?_
    exact hg18 hf h (lv_sub hl [1, 2, 0] rfl)
  · replace hf := it_f zc1 hf
    refine lv_aload_n C.hx C.hb dX6_learn_66 rfl (lv_at hl 0 rfl) ?_
    refine g_get C h fl_X6_26 0 0 rfl rfl (v := .ref (a_t 5)) rfl dX6_learn_67 ?_
    refine lv_iload_n C.hx C.hb dX6_learn_70 rfl (lv_at hl 2 rfl) ?_
    refine lv_iconst (v := 5) C.hx C.hb dX6_learn_71 (by decide) ?_
    refine lv_imul C.hx C.hb dX6_learn_72 ?_
    refine lv_iload C.hx C.hb dX6_learn_73 (lv_at hl 3 rfl) ?_
    refine lv_iadd C.hx C.hb dX6_learn_75 ?_
    refine lv_aload_n C.hx C.hb dX6_learn_76 rfl (lv_at hl 0 rfl) ?_
    refine lv_aload_n C.hx C.hb dX6_learn_77 rfl (lv_at hl 1 rfl) ?_
    refine lv_iload_n C.hx C.hb dX6_learn_78 rfl (lv_at hl 2 rfl) ?_
    refine lv_iload C.hx C.hb dX6_learn_79 (lv_at hl 3 rfl) ?_
    obtain ⟨zr2, zq3, hf⟩ := bd_some hf
    have zm4 := c_X6_sumsFor l G o_t o_p1 a_p1 a_t a_t_kinds N (hf := zq3)
    refine g_goI C h zm4.1 (is := [0, 1, 2]) rfl rfl (g_runV C h (is := [0, 1, 2]) rfl rfl (As := [.ref o_p1, .int y2, .int y4]) (rest := [.int ((y2 * 5) + y4), .ref (a_t 5)]) (zm4.2 _) vf_X6_53 0 0 rfl rfl hl.1 rfl rfl (Nat.le_of_ble_eq_true rfl) dX6_learn_81 ⟨Nat.le_of_ble_eq_true rfl, Nat.le_of_ble_eq_true rfl⟩ ⟨Nat.le_refl _, Nat.le_refl _⟩) (us2 := [uX6 G o_t a_t v_t, uX9 G o_p1 a_p1 v_p1, uX2 G (a_t 0) a_t_kinds]) rfl (fun H locs h => ?_)
    obtain ⟨zi5, hf⟩ := ck_some hf
    refine g_iast C h 0 3 rfl rfl (f := v_t.2.2 5) zi5 dX6_learn_84 (u' := uX6 G o_t a_t (upa v_t 5 (((y2 * 5) + y4).toNatClampNeg) zr2)) (us' := [uX6 G o_t a_t (upa v_t 5 (((y2 * 5) + y4).toNatClampNeg) zr2), uX9 G o_p1 a_p1 v_p1, uX2 G (a_t 0) a_t_kinds]) rfl rfl (fun H locs h => ?_)
    refine lv_iinc (v := y4 + 1) (lv' := [(4, .int (y4 + 1)), (0, .ref o_t), (1, .ref o_p1), (2, .int y2)]) C.hx C.hb dX6_learn_85 hl (k := 3) rfl rfl (by decide) rfl (fun ls hl => ?_)
    refine lv_goto (tgt := 57) C.hx C.hb dX6_learn_88 (by decide) ?_
    exact hg57 hf h (lv_sub hl [1, 2, 3, 0] rfl)
set_option maxRecDepth 100000 in
set_option maxHeartbeats 4000000 in
theorem l_X6_learn_57 {p : Program} {l : Launch} {e : Env} {s : State} {m : MethodId} {args : Array Value} {below : List Frame} {meth : Method} {c : Code} {G : GG} {A : Nat → Prop} {o_t o_p1 : Nat} {a_p1 a_t a_t_kinds : Nat → Nat} {N : Nat} {g18 : US → US → Int32 → Option (US)} {res : US} (C : MC RX6 cX6_learn 5 none G A p s m args meth c) (hg18 : ∀ {v_t : US} {v_p1 : US} {y2 : Int32}, g18 v_t v_p1 y2 = some res → ∀ {H : Heap} {locs : List Loc} {ls : Array Slot}, HP G A s [uX6 G o_t a_t v_t, uX9 G o_p1 a_p1 v_p1, uX2 G (a_t 0) a_t_kinds] H locs → lv_has ls 5 [(0, .ref o_t), (1, .ref o_p1), (2, .int y2)] → W p l e (rmm 6) s m args below meth c H locs 0 0 (QV below G A args s  [uX6 G o_t a_t res, uX9 G o_p1 a_p1 v_p1, uX2 G (a_t 0) a_t_kinds]) (F0 m 18 ls [])) : ∀ (k : Nat) {v_t : US} {v_p1 : US} {y2 : Int32} {y4 : Int32}, f_X6_learn_57 N g18 k v_t v_p1 y2 y4 = some res → ∀ {H : Heap} {locs : List Loc} {ls : Array Slot}, HP G A s [uX6 G o_t a_t v_t, uX9 G o_p1 a_p1 v_p1, uX2 G (a_t 0) a_t_kinds] H locs → lv_has ls 5 [(0, .ref o_t), (1, .ref o_p1), (2, .int y2), (4, .int y4)] → W p l e (rmm 6) s m args below meth c H locs 0 0 (QV below G A args s  [uX6 G o_t a_t res, uX9 G o_p1 a_p1 v_p1, uX2 G (a_t 0) a_t_kinds]) (F0 m 57 ls []) := by
  intro k
  induction k with
  | zero => intros; contradiction
  | succ k ih =>
    intro v_t v_p1 y2 y4 hf H locs ls h hl
    exact w_X6_learn_57 (N := N) C hg18 ih hf h hl
set_option maxRecDepth 100000 in
set_option maxHeartbeats 4000000 in
theorem w_X6_learn_18 {p : Program} {l : Launch} {e : Env} {s : State} {m : MethodId} {args : Array Value} {below : List Frame} {meth : Method} {c : Code} {G : GG} {A : Nat → Prop} {o_t o_p1 : Nat} {a_p1 a_t a_t_kinds : Nat → Nat} {N : Nat} {g18 : US → US → Int32 → Option (US)} {v_t : US} {v_p1 : US} {y2 : Int32} {res : US} (C : MC RX6 cX6_learn 5 none G A p s m args meth c) (hg18 : ∀ {v_t : US} {v_p1 : US} {y2 : Int32}, g18 v_t v_p1 y2 = some res → ∀ {H : Heap} {locs : List Loc} {ls : Array Slot}, HP G A s [uX6 G o_t a_t v_t, uX9 G o_p1 a_p1 v_p1, uX2 G (a_t 0) a_t_kinds] H locs → lv_has ls 5 [(0, .ref o_t), (1, .ref o_p1), (2, .int y2)] → W p l e (rmm 6) s m args below meth c H locs 0 0 (QV below G A args s  [uX6 G o_t a_t res, uX9 G o_p1 a_p1 v_p1, uX2 G (a_t 0) a_t_kinds]) (F0 m 18 ls [])) (hf : b_X6_learn_18 N g18 v_t v_p1 y2 = some res) {H : Heap} {locs : List Loc} {ls : Array Slot} (h : HP G A s [uX6 G o_t a_t v_t, uX9 G o_p1 a_p1 v_p1, uX2 G (a_t 0) a_t_kinds] H locs) (hl : lv_has ls 5 [(0, .ref o_t), (1, .ref o_p1), (2, .int y2)]) : W p l e (rmm 6) s m args below meth c H locs 0 0 (QV below G A args s  [uX6 G o_t a_t res, uX9 G o_p1 a_p1 v_p1, uX2 G (a_t 0) a_t_kinds]) (F0 m 18 ls []) := by
  unfold b_X6_learn_18 at hf
  refine lv_iload_n C.hx C.hb dX6_learn_18 rfl (lv_at hl 2 rfl) ?_
  refine lv_aload_n C.hx C.hb dX6_learn_19 rfl (lv_at hl 0 rfl) ?_
  refine g_get C h fl_X6_15 0 0 rfl rfl (v := .int (v_t.1 2)) rfl dX6_learn_20 ?_
  refine lv_icmp_ge (tgt := 97) C.hx C.hb dX6_learn_23 (by decide) (fun zc1 => ?_) (fun zc1 => ?_)
  · replace hf := it_t zc1 hf
    obtain rfl := Option.some.inj hf
    exact g_ret_v C h rfl dX6_learn_97
  · replace hf := it_f zc1 hf
    refine lv_aload_n C.hx C.hb dX6_learn_26 rfl (lv_at hl 1 rfl) ?_
    refine g_get C h fl_X6_46 1 0 rfl rfl (v := .ref (a_p1 12)) rfl dX6_learn_27 ?_
    refine lv_iload_n C.hx C.hb dX6_learn_30 rfl (lv_at hl 2 rfl) ?_
    obtain ⟨zi2, hf⟩ := ck_some hf
    refine g_iald C h 1 7 rfl rfl (f := v_p1.2.2 12) zi2 dX6_learn_31 ?_
    refine lv_istore_n (lv' := [(3, .int ((v_p1.2.2 12) y2.toNatClampNeg)), (0, .ref o_t), (1, .ref o_p1), (2, .int y2)]) C.hx C.hb dX6_learn_32 rfl hl (by decide) rfl (fun ls hl => ?_)
    refine lv_aload_n C.hx C.hb dX6_learn_33 rfl (lv_at hl 1 rfl) ?_
    refine g_get C h fl_X6_18 0 0 rfl rfl (v := .ref (a_t 3)) rfl dX6_learn_34 ?_
    refine lv_iload_n C.hx C.hb dX6_learn_37 rfl (lv_at hl 3 rfl) ?_
    refine lv_iload_n C.hx C.hb dX6_learn_38 rfl (lv_at hl 0 rfl) ?_
    obtain ⟨zi3, hf⟩ := ck_some hf
    refine g_iast C h 0 1 rfl rfl (f := v_t.2.2 3) zi3 dX6_learn_39 (u' := uX6 G o_t a_t (upa v_t 3 y2.toNatClampNeg ((v_p1.2.2 12) y2.toNatClampNeg))) (us' := [uX6 G o_t a_t (upa v_t 3 y2.toNatClampNeg ((v_p1.2.2 12) y2.toNatClampNeg)), uX9 G o_p1 a_p1 v_p1, uX2 G (a_t 0) a_t_kinds]) rfl rfl (fun H locs h => ?_)
    refine lv_aload_n C.hx C.hb dX6_learn_40 rfl (lv_at hl 1 rfl) ?_
    refine g_get C h fl_X6_22 0 0 rfl rfl (v := .ref (a_t 4)) rfl dX6_learn_41 ?_
    refine lv_iload_n C.hx C.hb dX6_learn_44 rfl (lv_at hl 3 rfl) ?_
    refine lv_aload_n C.hx C.hb dX6_learn_45 rfl (lv_at hl 1 rfl) ?_
    refine lv_aload_n C.hx C.hb dX6_learn_46 rfl (lv_at hl 2 rfl) ?_
    refine lv_iload_n C.hx C.hb dX6_learn_47 rfl (lv_at hl 3 rfl) ?_
    refine lv_iload_n C.hx C.hb dX6_learn_48 rfl (lv_at hl 0 rfl) ?_
    refine lv_iconst (v := 0) C.hx C.hb dX6_learn_49 (by decide) ?_
    obtain ⟨zr4, zq5, hf⟩ := bd_some hf
    have zm6 := c_X6_isSo l G o_t o_p1 a_p1 a_t a_t_kinds (hf := zq5)
    refine g_goI C h zm6.1 (is := [0, 1, 2]) rfl rfl (g_runV C h (is := [0, 1, 2]) rfl rfl (As := [.ref o_p1, .int y2, .int ((v_p1.2.2 12) y2.toNatClampNeg), .int 0]) (rest := [.int y2, .ref (a_t 4)]) (zm6.2 _) vf_X6_49 0 0 rfl rfl hl.1 rfl rfl (Nat.le_of_ble_eq_true rfl) dX6_learn_50 ⟨Nat.le_of_ble_eq_true rfl, Nat.le_of_ble_eq_true rfl⟩ ⟨Nat.le_refl _, Nat.le_refl _⟩) (us2 := [uX6 G o_t a_t (upa v_t 3 y2.toNatClampNeg ((v_p1.2.2 12) y2.toNatClampNeg)), uX9 G o_p1 a_p1 v_p1, uX2 G (a_t 0) a_t_kinds]) rfl (fun H locs h => ?_)
    obtain ⟨zw7, hzw7, hf⟩ := bnd_some hf
    rw [← hzw7] at h
    obtain ⟨zi8, hf⟩ := ck_some hf
    refine g_zast C h 0 2 rfl rfl (f := zw7.2.2 4) (b := zr4) rfl zi8 dX6_learn_53 (u' := uX6 G o_t a_t (upa zw7 4 y2.toNatClampNeg (b2i zr4))) (us' := [uX6 G o_t a_t (upa zw7 4 y2.toNatClampNeg (b2i zr4)), uX9 G o_p1 a_p1 v_p1, uX2 G (a_t 0) a_t_kinds]) rfl rfl (fun H locs h => ?_)
    refine lv_iconst (v := 0) C.hx C.hb dX6_learn_54 (by decide) ?_
    refine lv_istore (lv' := [(4, .int 0), (3, .int ((v_p1.2.2 12) y2.toNatClampNeg)), (0, .ref o_t), (1, .ref o_p1), (2, .int y2)]) C.hx C.hb dX6_learn_55 hl (by decide) rfl (fun ls hl => ?_)
    exact l_X6_learn_57 C hg18 N hf h (lv_sub hl [2, 3, 4, 0] rfl)
set_option maxRecDepth 100000 in
set_option maxHeartbeats 4000000 in
theorem l_X6_learn_18 {p : Program} {l : Launch} {e : Env} {s : State} {m : MethodId} {args : Array Value} {below : List Frame} {meth : Method} {c : Code} {G : GG} {A : Nat → Prop} {o_t o_p1 : Nat} {a_p1 a_t a_t_kinds : Nat → Nat} {N : Nat}  {res : US} (C : MC RX6 cX6_learn 5 none G A p s m args meth c)  : ∀ (k : Nat) {v_t : US} {v_p1 : US} {y2 : Int32}, f_X6_learn_18 N k v_t v_p1 y2 = some res → ∀ {H : Heap} {locs : List Loc} {ls : Array Slot}, HP G A s [uX6 G o_t a_t v_t, uX9 G o_p1 a_p1 v_p1, uX2 G (a_t 0) a_t_kinds] H locs → lv_has ls 5 [(0, .ref o_t), (1, .ref o_p1), (2, .int y2)] → W p l e (rmm 6) s m args below meth c H locs 0 0 (QV below G A args s  [uX6 G o_t a_t res, uX9 G o_p1 a_p1 v_p1, uX2 G (a_t 0) a_t_kinds]) (F0 m 18 ls []) := by
  intro k
  induction k with
  | zero => intros; contradiction
  | succ k ih =>
    intro v_t v_p1 y2 hf H locs ls h hl
    exact w_X6_learn_18 (N := N) C ih hf h hl
set_option maxRecDepth 100000 in
set_option maxHeartbeats 4000000 in
theorem c_X6_learn (l : Launch) (G : GG) (o_t o_p1 : Nat) (a_p1 a_t a_t_kinds : Nat → Nat) (N : Nat) {v_t : US} {v_p1 : US}  {res : US} (hf : f_X6_learn N v_t v_p1 = some res) : MV l yX6_learn cX6_learn 5 none 6 [.ref o_t, .ref o_p1] G [uX6 G o_t a_t v_t, uX9 G o_p1 a_p1 v_p1, uX2 G (a_t 0) a_t_kinds]  [uX6 G o_t a_t res, uX9 G o_p1 a_p1 v_p1, uX2 G (a_t 0) a_t_kinds] := by
  unfold f_X6_learn at hf
  refine MV.intro (by decide) rfl (Nat.le_of_ble_eq_true rfl) (fun p e s m args below meth c A ls C h hl => ?_)
  have C : MC RX6 cX6_learn 5 none G A p s m args meth c := C
  have hl : lv_has ls 5 [(0, .ref o_t), (1, .ref o_p1)] := hl
  refine lv_aload_n C.hx C.hb dX6_learn_0 rfl (lv_at hl 0 rfl) ?_
  refine lv_aload_n C.hx C.hb dX6_learn_1 rfl (lv_at hl 1 rfl) ?_
  refine g_get C h fl_X6_42 1 0 rfl rfl (v := .int (v_p1.1 0)) rfl dX6_learn_2 ?_
  refine g_put C h fp_X6_11 0 0 rfl rfl rfl rfl (Nat.le_of_ble_eq_true rfl) dX6_learn_5 (u' := uX6 G o_t a_t (upi v_t 1 (v_p1.1 0))) (us' := [uX6 G o_t a_t (upi v_t 1 (v_p1.1 0)), uX9 G o_p1 a_p1 v_p1, uX2 G (a_t 0) a_t_kinds]) rfl rfl (fun H locs h => ?_)
  refine lv_aload_n C.hx C.hb dX6_learn_8 rfl (lv_at hl 0 rfl) ?_
  refine lv_aload_n C.hx C.hb dX6_learn_9 rfl (lv_at hl 1 rfl) ?_
  refine g_get C h fl_X6_45 1 0 rfl rfl (v := .int (v_p1.1 11)) rfl dX6_learn_10 ?_
  obtain ⟨zw1, hzw1, hf⟩ := bnd_some hf
  rw [← hzw1] at h
  refine g_put C h fp_X6_15 0 0 rfl rfl rfl rfl (Nat.le_of_ble_eq_true rfl) dX6_learn_13 (u' := uX6 G o_t a_t (upi zw1 2 (v_p1.1 11))) (us' := [uX6 G o_t a_t (upi zw1 2 (v_p1.1 11)), uX9 G o_p1 a_p1 v_p1, uX2 G (a_t 0) a_t_kinds]) rfl rfl (fun H locs h => ?_)
  refine lv_iconst (v := 0) C.hx C.hb dX6_learn_16 (by decide) ?_
  refine lv_istore_n (lv' := [(2, .int 0), (0, .ref o_t), (1, .ref o_p1)]) C.hx C.hb dX6_learn_17 rfl hl (by decide) rfl (fun ls hl => ?_)
  exact l_X6_learn_18 C N hf h (lv_sub hl [1, 2, 0] rfl)
