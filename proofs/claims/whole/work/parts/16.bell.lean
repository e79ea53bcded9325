def f_X11_bad (v_t : US) (x1 : Int32) : Option (Int32 × US) :=
  some (x1, upi v_t 6 ((v_t.1 6) + 1))
set_option maxRecDepth 100000 in
set_option maxHeartbeats 4000000 in
theorem c_X11_bad (l : Launch) (G : GG) (o_t : Nat) (a_t : Nat → Nat) {v_t : US} {x1 : Int32} {res : Int32 × US} (hf : f_X11_bad v_t x1 = some res) : MI l yX11_bad cX11_bad 2 (some .int) 1 [.ref o_t, .int x1] G [uX11 G o_t a_t v_t] res.1 [uX11 G o_t a_t res.2] := by
  unfold f_X11_bad at hf
  refine MI.intro (by decide) rfl (Nat.le_of_ble_eq_true rfl) (fun p e s m args below meth c A ls C h hl => ?_)
  have C : MC RX11 cX11_bad 2 (some .int) G A p s m args meth c := C
  have hl : lv_has ls 2 [(0, .ref o_t), (1, .int x1)] := hl
  refine lv_aload_n C.hx C.hb dX11_bad_0 rfl (lv_at hl 0 rfl) ?_
  refine lv_dup C.hx C.hb dX11_bad_1 rfl ?_
  refine g_get C h fl_X11_35 0 0 rfl rfl (v := .int (v_t.1 6)) rfl dX11_bad_2 ?_
  refine lv_iconst (v := 1) C.hx C.hb dX11_bad_5 (by decide) ?_
  refine lv_iadd C.hx C.hb dX11_bad_6 ?_
  refine g_put C h fp_X11_35 0 0 rfl rfl rfl rfl (Nat.le_of_ble_eq_true rfl) dX11_bad_7 (u' := uX11 G o_t a_t (upi v_t 6 ((v_t.1 6) + 1))) (us' := [uX11 G o_t a_t (upi v_t 6 ((v_t.1 6) + 1))]) rfl rfl (fun H locs h => ?_)
  refine lv_iload_n C.hx C.hb dX11_bad_10 rfl (lv_at hl 1 rfl) ?_
  obtain rfl := Option.some.inj hf
  exact g_ret_i C h rfl rfl dX11_bad_11

def f_X11_doSwing (v_t : US) (v_t_now : US) (v_t_swing : US)  : Option (Int32 × US) :=
  (f_X9_remember v_t_now).bind fun zr1 => (f_X8_behind v_t_swing (zr1.1 7)).bind fun zr4 => (f_X8_rings v_t_swing).bind fun zr7 => some (zr7, upi zr1 7 zr4)
set_option maxRecDepth 100000 in
set_option maxHeartbeats 4000000 in
theorem c_X11_doSwing (l : Launch) (G : GG) (o_t : Nat) (a_t a_t_now a_t_swing : Nat → Nat) {v_t : US} {v_t_now : US} {v_t_swing : US}  {res : Int32 × US} (hf : f_X11_doSwing v_t v_t_now v_t_swing = some res) : MI l yX11_doSwing cX11_doSwing 1 (some .int) 2 [.ref o_t] G [uX11 G o_t a_t v_t, uX9 G (a_t 0) a_t_now v_t_now, uX8 G (a_t 9) a_t_swing v_t_swing] res.1 [uX11 G o_t a_t v_t, uX9 G (a_t 0) a_t_now res.2, uX8 G (a_t 9) a_t_swing v_t_swing] := by
  unfold f_X11_doSwing at hf
  refine MI.intro (by decide) rfl (Nat.le_of_ble_eq_true rfl) (fun p e s m args below meth c A ls C h hl => ?_)
  have C : MC RX11 cX11_doSwing 1 (some .int) G A p s m args meth c := C
  have hl : lv_has ls 1 [(0, .ref o_t)] := hl
  refine lv_aload_n C.hx C.hb dX11_doSwing_0 rfl (lv_at hl 0 rfl) ?_
  refine g_get C h fl_X11_12 0 0 rfl rfl (v := .ref (a_t 0)) rfl dX11_doSwing_1 ?_
  obtain ⟨zr1, zq2, hf⟩ := bd_some hf
  have zm3 := c_X9_remember l G (a_t 0) a_t_now (hf := zq2)
  refine g_goV C h zm3.1 (is := [1]) rfl rfl (g_runV C h (is := [1]) rfl rfl (As := []) (rest := []) (zm3.2 _) vf_X11_252 1 0 rfl rfl hl.1 rfl rfl (Nat.le_of_ble_eq_true rfl) dX11_doSwing_4 ⟨Nat.le_of_ble_eq_true rfl, Nat.le_of_ble_eq_true rfl⟩ ⟨Nat.le_refl _, Nat.le_refl _⟩) (us2 := [uX11 G o_t a_t v_t, uX9 G (a_t 0) a_t_now zr1, uX8 G (a_t 9) a_t_swing v_t_swing]) rfl (fun H locs h => ?_)
  refine lv_aload_n C.hx C.hb dX11_doSwing_7 rfl (lv_at hl 0 rfl) ?_
  refine g_get C h fl_X11_12 0 0 rfl rfl (v := .ref (a_t 0)) rfl dX11_doSwing_8 ?_
  refine lv_aload_n C.hx C.hb dX11_doSwing_11 rfl (lv_at hl 0 rfl) ?_
  refine g_get C h fl_X11_52 0 0 rfl rfl (v := .ref (a_t 9)) rfl dX11_doSwing_12 ?_
  refine lv_aload_n C.hx C.hb dX11_doSwing_15 rfl (lv_at hl 0 rfl) ?_
  refine g_get C h fl_X11_12 0 0 rfl rfl (v := .ref (a_t 0)) rfl dX11_doSwing_16 ?_
  refine g_get C h fl_X11_142 1 0 rfl rfl (v := .int (zr1.1 7)) rfl dX11_doSwing_19 ?_
  obtain ⟨zr4, zq5, hf⟩ := bd_some hf
  have zm6 := c_X8_behind l G (a_t 9) a_t_swing (hf := zq5)
  refine g_goI C h zm6.1 (is := [2]) rfl rfl (g_runV C h (is := [2]) rfl rfl (As := [.int (zr1.1 7)]) (rest := [.ref (a_t 0)]) (zm6.2 _) vf_X11_145 2 0 rfl rfl hl.1 rfl rfl (Nat.le_of_ble_eq_true rfl) dX11_doSwing_22 ⟨Nat.le_of_ble_eq_true rfl, Nat.le_of_ble_eq_true rfl⟩ ⟨Nat.le_refl _, Nat.le_refl _⟩) (us2 := [uX11 G o_t a_t v_t, uX9 G (a_t 0) a_t_now zr1, uX8 G (a_t 9) a_t_swing v_t_swing]) rfl (fun H locs h => ?_)
  refine g_put C h fp_X11_142 1 0 rfl rfl rfl rfl (Nat.le_of_ble_eq_true rfl) dX11_doSwing_25 (u' := uX9 G (a_t 0) a_t_now (upi zr1 7 zr4)) (us' := [uX11 G o_t a_t v_t, uX9 G (a_t 0) a_t_now (upi zr1 7 zr4), uX8 G (a_t 9) a_t_swing v_t_swing]) rfl rfl (fun H locs h => ?_)
  refine lv_aload_n C.hx C.hb dX11_doSwing_28 rfl (lv_at hl 0 rfl) ?_
  refine g_get C h fl_X11_52 0 0 rfl rfl (v := .ref (a_t 9)) rfl dX11_doSwing_29 ?_
  obtain ⟨zr7, zq8, hf⟩ := bd_some hf
  have zm9 := c_X8_rings l G (a_t 9) a_t_swing (hf := zq8)
  refine g_goI C h zm9.1 (is := [2]) rfl rfl (g_runV C h (is := [2]) rfl rfl (As := []) (rest := []) (zm9.2 _) vf_X11_255 2 0 rfl rfl hl.1 rfl rfl (Nat.le_of_ble_eq_true rfl) dX11_doSwing_32 ⟨Nat.le_of_ble_eq_true rfl, Nat.le_of_ble_eq_true rfl⟩ ⟨Nat.le_refl _, Nat.le_refl _⟩) (us2 := [uX11 G o_t a_t v_t, uX9 G (a_t 0) a_t_now (upi zr1 7 zr4), uX8 G (a_t 9) a_t_swing v_t_swing]) rfl (fun H locs h => ?_)
  obtain rfl := Option.some.inj hf
  exact g_ret_i C h rfl rfl dX11_doSwing_35

def f_X11_isPull (v_t : US) (v_t_now : US) (x1 : Int32) (x2 : Int32) : Option (Bool) :=
  (f_X9_hasThing v_t_now x1).bind fun zr1 => if (b2i zr1) = 0 then (some (false)) else ((f_X11_within x2 0 20).bind fun zr5 => if (b2i zr5) = 0 then (some (false)) else (some (true)))
set_option maxRecDepth 100000 in
set_option maxHeartbeats 4000000 in
theorem c_X11_isPull (l : Launch) (G : GG) (o_t : Nat) (a_t a_t_now : Nat → Nat) {v_t : US} {v_t_now : US} {x1 : Int32} {x2 : Int32} {res : Bool} (hf : f_X11_isPull v_t v_t_now x1 x2 = some res) : MI l yX11_isPull cX11_isPull 3 (some .boolean) 3 [.ref o_t, .int x1, .int x2] G [uX11 G o_t a_t v_t, uX9 G (a_t 0) a_t_now v_t_now] (b2i res) [uX11 G o_t a_t v_t, uX9 G (a_t 0) a_t_now v_t_now] := by
  unfold f_X11_isPull at hf
  refine MI.intro (by decide) rfl (Nat.le_of_ble_eq_true rfl) (fun p e s m args below meth c A ls C h hl => ?_)
  have C : MC RX11 cX11_isPull 3 (some .boolean) G A p s m args meth c := C
  have hl : lv_has ls 3 [(0, .ref o_t), (1, .int x1), (2, .int x2)] := hl
  refine lv_aload_n C.hx C.hb dX11_isPull_0 rfl (lv_at hl 0 rfl) ?_
  refine g_get C h fl_X11_12 0 0 rfl rfl (v := .ref (a_t 0)) rfl dX11_isPull_1 ?_
  refine lv_iload_n C.hx C.hb dX11_isPull_4 rfl (lv_at hl 1 rfl) ?_
  obtain ⟨zr1, zq2, hf⟩ := bd_some hf
  have zm3 := c_X9_hasThing l G (a_t 0) a_t_now (hf := zq2)
  refine g_goI C h zm3.1 (is := [1]) rfl rfl (g_runV C h (is := [1]) rfl rfl (As := [.int x1]) (rest := []) (zm3.2 _) vf_X11_98 1 0 rfl rfl hl.1 rfl rfl (Nat.le_of_ble_eq_true rfl) dX11_isPull_5 ⟨Nat.le_of_ble_eq_true rfl, Nat.le_of_ble_eq_true rfl⟩ ⟨Nat.le_refl _, Nat.le_refl _⟩) (us2 := [uX11 G o_t a_t v_t, uX9 G (a_t 0) a_t_now v_t_now]) rfl (fun H locs h => ?_)
  refine lv_if_eq (tgt := 25) C.hx C.hb dX11_isPull_8 (by decide) (fun zc4 => ?_) (fun zc4 => ?_)
  · replace hf := it_t zc4 hf
    refine lv_iconst (v := 0) C.hx C.hb dX11_isPull_25 (by decide) ?_
    obtain rfl := Option.some.inj hf
    exact g_ret_z (b := false) C h rfl rfl rfl dX11_isPull_26
  · replace hf := it_f zc4 hf
    refine lv_iload_n C.hx C.hb dX11_isPull_11 rfl (lv_at hl 2 rfl) ?_
    refine lv_iconst (v := 0) C.hx C.hb dX11_isPull_12 (by decide) ?_
    refine lv_bipush (v := 20) C.hx C.hb dX11_isPull_13 (by decide) ?_
    obtain ⟨zr5, zq6, hf⟩ := bd_some hf
    have zm7 := c_X11_within l G  (hf := zq6)
    refine g_goI C h zm7.1 (is := []) rfl rfl (g_runS C h (is := []) rfl rfl (As := [.int x2, .int 0, .int 20]) (rest := []) (zm7.2 _) sf_X11_79 hl.1 rfl rfl (Nat.le_of_ble_eq_true rfl) dX11_isPull_15 ⟨Nat.le_of_ble_eq_true rfl, Nat.le_of_ble_eq_true rfl⟩ ⟨Nat.le_refl _, Nat.le_refl _⟩) (us2 := [uX11 G o_t a_t v_t, uX9 G (a_t 0) a_t_now v_t_now]) rfl (fun H locs h => ?_)
    refine lv_if_eq (tgt := 25) C.hx C.hb dX11_isPull_18 (by decide) (fun zc8 => ?_) (fun zc8 => ?_)
    · replace hf := it_t zc8 hf
      refine lv_iconst (v := 0) C.hx C.hb dX11_isPull_25 (by decide) ?_
      obtain rfl := Option.some.inj hf
      exact g_ret_z (b := false) C h rfl rfl rfl dX11_isPull_26
    · replace hf := it_f zc8 hf
      refine lv_iconst (v := 1) C.hx C.hb dX11_isPull_21 (by decide) ?_
      refine lv_goto (tgt := 26) C.hx C.hb dX11_isPull_22 (by decide) ?_
      obtain rfl := Option.some.inj hf
      exact g_ret_z (b := true) C h rfl rfl rfl dX11_isPull_26

def b_X11_both_24 (N : Nat)  (v_t : US) (v_t_now : US) (v_t_swing : US)  : Option (Int32 × US × US × US) :=
  (f_X11_bad v_t (-2)).bind fun zr1 => some (zr1.1, zr1.2, v_t_now, v_t_swing)
def f_X11_both (N : Nat) (v_t : US) (v_t_now : US) (v_t_swing : US) (x1 : Int32) (x2 : Int32) (x3 : Int32) (x4 : Int32) : Option (Int32 × US × US × US) :=
  (f_X11_isPull v_t v_t_now x1 x2).bind fun zr1 => if (b2i zr1) = 0 then (b_X11_both_24 N v_t v_t_now v_t_swing) else ((f_X11_isPull v_t v_t_now x3 x4).bind fun zr5 => if (b2i zr5) = 0 then (b_X11_both_24 N v_t v_t_now v_t_swing) else (if x1 = x3 then (b_X11_both_24 N v_t v_t_now v_t_swing) else ((f_X8_by N v_t_swing v_t_now (v_t_now.1 5) x1 x2 x3 x4).bind fun zr10 => (f_X11_doSwing v_t v_t_now zr10).bind fun zr13 => some (zr13.1, v_t, zr13.2, zr10))))
set_option maxRecDepth 100000 in
set_option maxHeartbeats 4000000 in
theorem w_X11_both_24 {p : Program} {l : Launch} {e : Env} {s : State} {m : MethodId} {args : Array Value} {below : List Frame} {meth : Method} {c : Code} {G : GG} {A : Nat → Prop} {o_t : Nat} {a_t a_t_now a_t_swing a_t_swing_kinds : Nat → Nat} {N : Nat}  {v_t : US} {v_t_now : US} {v_t_swing : US}  {res : Int32 × US × US × US} (C : MC RX11 cX11_both 5 (some .int) G A p s m args meth c)  (hf : b_X11_both_24 N v_t v_t_now v_t_swing = some res) {H : Heap} {locs : List Loc} {ls : Array Slot} (h : HP G A s [uX11 G o_t a_t v_t, uX9 G (a_t 0) a_t_now v_t_now, uX8 G (a_t 9) a_t_swing v_t_swing, uX2 G (a_t_swing 0) a_t_swing_kinds] H locs) (hl : lv_has ls 5 [(0, .ref o_t)]) : W p l e (rmm 5) s m args below meth c H locs 0 0 (QI below G A args s res.1 [uX11 G o_t a_t res.2.1, uX9 G (a_t 0) a_t_now res.2.2.1, uX8 G (a_t 9) a_t_swing res.2.2.2, uX2 G (a_t_swing 0) a_t_swing_kinds]) (F0 m 24 ls []) := by
  unfold b_X11_both_24 at hf
  refine lv_aload_n C.hx C.hb dX11_both_24 rfl (lv_at hl 0 rfl) ?_
  refine lv_bipush (v := (-2)) C.hx C.hb dX11_both_25 (by decide) ?_
  obtain ⟨zr1, zq2, hf⟩ := bd_some hf
  have zm3 := c_X11_bad l G o_t a_t (hf := zq2)
  refine g_goI C h zm3.1 (is := [0]) rfl rfl (g_runV C h (is := [0]) rfl rfl (As := [.int (-2)]) (rest := []) (zm3.2 _) vf_X11_83 0 0 rfl rfl hl.1 rfl rfl (Nat.le_of_ble_eq_true rfl) dX11_both_27 ⟨Nat.le_of_ble_eq_true rfl, Nat.le_of_ble_eq_true rfl⟩ ⟨Nat.le_refl _, Nat.le_refl _⟩) (us2 := [uX11 G o_t a_t zr1.2, uX9 G (a_t 0) a_t_now v_t_now, uX8 G (a_t 9) a_t_swing v_t_swing, uX2 G (a_t_swing 0) a_t_swing_kinds]) rfl (fun H locs h => ?_)
  obtain rfl := Option.some.inj hf
  exact g_ret_i C h rfl rfl dX11_both_30
set_option maxRecDepth 100000 in
set_option maxHeartbeats 4000000 in
theorem c_X11_both (l : Launch) (G : GG) (o_t : Nat) (a_t a_t_now a_t_swing a_t_swing_kinds : Nat → Nat) (N : Nat) {v_t : US} {v_t_now : US} {v_t_swing : US} {x1 : Int32} {x2 : Int32} {x3 : Int32} {x4 : Int32} {res : Int32 × US × US × US} (hf : f_X11_both N v_t v_t_now v_t_swing x1 x2 x3 x4 = some res) : MI l yX11_both cX11_both 5 (some .int) 5 [.ref o_t, .int x1, .int x2, .int x3, .int x4] G [uX11 G o_t a_t v_t, uX9 G (a_t 0) a_t_now v_t_now, uX8 G (a_t 9) a_t_swing v_t_swing, uX2 G (a_t_swing 0) a_t_swing_kinds] res.1 [uX11 G o_t a_t res.2.1, uX9 G (a_t 0) a_t_now res.2.2.1, uX8 G (a_t 9) a_t_swing res.2.2.2, uX2 G (a_t_swing 0) a_t_swing_kinds] := by
  unfold f_X11_both at hf
  refine MI.intro (by decide) rfl (Nat.le_of_ble_eq_true rfl) (fun p e s m args below meth c A ls C h hl => ?_)
  have C : MC RX11 cX11_both 5 (some .int) G A p s m args meth c := C
  have hl : lv_has ls 5 [(0, .ref o_t), (1, .int x1), (2, .int x2), (3, .int x3), (4, .int x4)] := hl
  refine lv_aload_n C.hx C.hb dX11_both_0 rfl (lv_at hl 0 rfl) ?_
  refine lv_iload_n C.hx C.hb dX11_both_1 rfl (lv_at hl 1 rfl) ?_
  refine lv_iload_n C.hx C.hb dX11_both_2 rfl (lv_at hl 2 rfl) ?_
  obtain ⟨zr1, zq2, hf⟩ := bd_some hf
  have zm3 := c_X11_isPull l G o_t a_t a_t_now (hf := zq2)
  refine g_goI C h zm3.1 (is := [0, 1]) rfl rfl (g_runV C h (is := [0, 1]) rfl rfl (As := [.int x1, .int x2]) (rest := []) (zm3.2 _) vf_X11_132 0 0 rfl rfl hl.1 rfl rfl (Nat.le_of_ble_eq_true rfl) dX11_both_3 ⟨Nat.le_of_ble_eq_true rfl, Nat.le_of_ble_eq_true rfl⟩ ⟨Nat.le_refl _, Nat.le_refl _⟩) (us2 := [uX11 G o_t a_t v_t, uX9 G (a_t 0) a_t_now v_t_now, uX8 G (a_t 9) a_t_swing v_t_swing, uX2 G (a_t_swing 0) a_t_swing_kinds]) rfl (fun H locs h => ?_)
  refine lv_if_eq (tgt := 24) C.hx C.hb dX11_both_6 (by decide) (fun zc4 => ?_) (fun zc4 => ?_)
  · replace hf := it_t zc4 hf
    exact w_X11_both_24 C  hf h (lv_sub hl [0] rfl)
  · replace hf := it_f zc4 hf
    refine lv_aload_n C.hx C.hb dX11_both_9 rfl (lv_at hl 0 rfl) ?_
    refine lv_iload_n C.hx C.hb dX11_both_10 rfl (lv_at hl 3 rfl) ?_
    refine lv_iload C.hx C.hb dX11_both_11 (lv_at hl 4 rfl) ?_
    obtain ⟨zr5, zq6, hf⟩ := bd_some hf
    have zm7 := c_X11_isPull l G o_t a_t a_t_now (hf := zq6)
    refine g_goI C h zm7.1 (is := [0, 1]) rfl rfl (g_runV C h (is := [0, 1]) rfl rfl (As := [.int x3, .int x4]) (rest := []) (zm7.2 _) vf_X11_132 0 0 rfl rfl hl.1 rfl rfl (Nat.le_of_ble_eq_true rfl) dX11_both_13 ⟨Nat.le_of_ble_eq_true rfl, Nat.le_of_ble_eq_true rfl⟩ ⟨Nat.le_refl _, Nat.le_refl _⟩) (us2 := [uX11 G o_t a_t v_t, uX9 G (a_t 0) a_t_now v_t_now, uX8 G (a_t 9) a_t_swing v_t_swing, uX2 G (a_t_swing 0) a_t_swing_kinds]) rfl (fun H locs h => ?_)
    refine lv_if_eq (tgt := 24) C.hx C.hb dX11_both_16 (by decide) (fun zc8 => ?_) (fun zc8 => ?_)
    · replace hf := it_t zc8 hf
      exact w_X11_both_24 C  hf h (lv_sub hl [0] rfl)
    · replace hf := it_f zc8 hf
      refine lv_iload_n C.hx C.hb dX11_both_19 rfl (lv_at hl 1 rfl) ?_
      refine lv_iload_n C.hx C.hb dX11_both_20 rfl (lv_at hl 3 rfl) ?_
      refine lv_icmp_ne (tgt := 31) C.hx C.hb dX11_both_21 (by decide) (fun zc9 => ?_) (fun zc9 => ?_)
      · replace hf := it_f zc9 hf
        refine lv_aload_n C.hx C.hb dX11_both_31 rfl (lv_at hl 0 rfl) ?_
        refine g_get C h fl_X11_52 0 0 rfl rfl (v := .ref (a_t 9)) rfl dX11_both_32 ?_
        refine lv_aload_n C.hx C.hb dX11_both_35 rfl (lv_at hl 0 rfl) ?_
        refine g_get C h fl_X11_12 0 0 rfl rfl (v := .ref (a_t 0)) rfl dX11_both_36 ?_
        refine lv_aload_n C.hx C.hb dX11_both_39 rfl (lv_at hl 0 rfl) ?_
        refine g_get C h fl_X11_12 0 0 rfl rfl (v := .ref (a_t 0)) rfl dX11_both_40 ?_
        refine g_get C h fl_X11_102 1 0 rfl rfl (v := .int (v_t_now.1 5)) rfl dX11_both_43 ?_
        refine lv_iload_n C.hx C.hb dX11_both_46 rfl (lv_at hl 1 rfl) ?_
        refine lv_iload_n C.hx C.hb dX11_both_47 rfl (lv_at hl 2 rfl) ?_
        refine lv_iload_n C.hx C.hb dX11_both_48 rfl (lv_at hl 3 rfl) ?_
        refine lv_iload C.hx C.hb dX11_both_49 (lv_at hl 4 rfl) ?_
        obtain ⟨zr10, zq11, hf⟩ := bd_some hf
        have zm12 := c_X8_by l G (a_t 9) (a_t 0) a_t_now a_t_swing a_t_swing_kinds N (hf := zq11)
        refine g_goV C h zm12.1 (is := [2, 1, 3]) rfl rfl (g_runV C h (is := [2, 1, 3]) rfl rfl (As := [.ref (a_t 0), .int (v_t_now.1 5), .int x1, .int x2, .int x3, .int x4]) (rest := []) (zm12.2 _) vf_X11_135 2 0 rfl rfl hl.1 rfl rfl (Nat.le_of_ble_eq_true rfl) dX11_both_51 ⟨Nat.le_of_ble_eq_true rfl, Nat.le_of_ble_eq_true rfl⟩ ⟨Nat.le_refl _, Nat.le_refl _⟩) (us2 := [uX11 G o_t a_t v_t, uX9 G (a_t 0) a_t_now v_t_now, uX8 G (a_t 9) a_t_swing zr10, uX2 G (a_t_swing 0) a_t_swing_kinds]) rfl (fun H locs h => ?_)
        refine lv_aload_n C.hx C.hb dX11_both_54 rfl (lv_at hl 0 rfl) ?_
        obtain ⟨zr13, zq14, hf⟩ := bd_some hf
        have zm15 := c_X11_doSwing l G o_t a_t a_t_now a_t_swing (hf := zq14)
        refine g_goI C h zm15.1 (is := [0, 1, 2]) rfl rfl (g_runV C h (is := [0, 1, 2]) rfl rfl (As := []) (rest := []) (zm15.2 _) vf_X11_139 0 0 rfl rfl hl.1 rfl rfl (Nat.le_of_ble_eq_true rfl) dX11_both_55 ⟨Nat.le_of_ble_eq_true rfl, Nat.le_of_ble_eq_true rfl⟩ ⟨Nat.le_refl _, Nat.le_refl _⟩) (us2 := [uX11 G o_t a_t v_t, uX9 G (a_t 0) a_t_now zr13.2, uX8 G (a_t 9) a_t_swing zr10, uX2 G (a_t_swing 0) a_t_swing_kinds]) rfl (fun H locs h => ?_)
        obtain rfl := Option.some.inj hf
        exact g_ret_i C h rfl rfl dX11_both_58
      · replace hf := it_t zc9 hf
        exact w_X11_both_24 C  hf h (lv_sub hl [0] rfl)

def f_X11_clear (v_t : US)  : Option (Int32 × US) :=
  some (v_t.1 3, upi v_t 3 0)
set_option maxRecDepth 100000 in
set_option maxHeartbeats 4000000 in
theorem c_X11_clear (l : Launch) (G : GG) (o_t : Nat) (a_t : Nat → Nat) {v_t : US}  {res : Int32 × US} (hf : f_X11_clear v_t = some res) : MI l yX11_clear cX11_clear 2 (some .int) 1 [.ref o_t] G [uX11 G o_t a_t v_t] res.1 [uX11 G o_t a_t res.2] := by
  unfold f_X11_clear at hf
  refine MI.intro (by decide) rfl (Nat.le_of_ble_eq_true rfl) (fun p e s m args below meth c A ls C h hl => ?_)
  have C : MC RX11 cX11_clear 2 (some .int) G A p s m args meth c := C
  have hl : lv_has ls 2 [(0, .ref o_t)] := hl
  refine lv_aload_n C.hx C.hb dX11_clear_0 rfl (lv_at hl 0 rfl) ?_
  refine g_get C h fl_X11_24 0 0 rfl rfl (v := .int (v_t.1 3)) rfl dX11_clear_1 ?_
  refine lv_istore_n (lv' := [(1, .int (v_t.1 3)), (0, .ref o_t)]) C.hx C.hb dX11_clear_4 rfl hl (by decide) rfl (fun ls hl => ?_)
  refine lv_aload_n C.hx C.hb dX11_clear_5 rfl (lv_at hl 1 rfl) ?_
  refine lv_iconst (v := 0) C.hx C.hb dX11_clear_6 (by decide) ?_
  refine g_put C h fp_X11_24 0 0 rfl rfl rfl rfl (Nat.le_of_ble_eq_true rfl) dX11_clear_7 (u' := uX11 G o_t a_t (upi v_t 3 0)) (us' := [uX11 G o_t a_t (upi v_t 3 0)]) rfl rfl (fun H locs h => ?_)
  refine lv_iload_n C.hx C.hb dX11_clear_10 rfl (lv_at hl 0 rfl) ?_
  obtain rfl := Option.some.inj hf
  exact g_ret_i C h rfl rfl dX11_clear_11

def b_X11_code_16 (N : Nat)  (v_t : US) (v_t_day : US) (v_t_day_swing : US) (v_t_now : US)  : Option (Int32 × US × US × US) :=
  (f_X11_bad v_t (-10)).bind fun zr1 => some (zr1.1, zr1.2, v_t_day, v_t_day_swing)
def f_X11_code (N : Nat) (v_t : US) (v_t_day : US) (v_t_day_swing : US) (v_t_now : US) (x1 : Int32) (x2 : Int32) : Option (Int32 × US × US × US) :=
  (f_X9_hasSet v_t_now x1).bind fun zr1 => if (b2i zr1) = 0 then (b_X11_code_16 N v_t v_t_day v_t_day_swing v_t_now) else (if (-1) ≤ x2 then ((f_X0_findCodes N v_t_day v_t_now v_t_day_swing).bind fun zr6 => if x1 < 0 ∨ 32 ≤ x1.toNatClampNeg then none else (if x2 = (-1) then (some ((zr6.1.2.2 8) x1.toNatClampNeg, v_t, zr6.1, zr6.2)) else (if ((zr6.1.2.2 8) x1.toNatClampNeg) = (-1) then (some ((zr6.1.2.2 8) x1.toNatClampNeg, v_t, zr6.1, zr6.2)) else (if x2 < ((zr6.1.2.2 8) x1.toNatClampNeg) then ((f_X0_stepTo N zr6.1 x1 x2).bind fun zr13 => some (zr13, v_t, zr6.1, zr6.2)) else (some ((-5), v_t, zr6.1, zr6.2)))))) else (b_X11_code_16 N v_t v_t_day v_t_day_swing v_t_now))
set_option maxRecDepth 100000 in
set_option maxHeartbeats 4000000 in
theorem w_X11_code_16 {p : Program} {l : Launch} {e : Env} {s : State} {m : MethodId} {args : Array Value} {below : List Frame} {meth : Method} {c : Code} {G : GG} {A : Nat → Prop} {o_t : Nat} {a_t a_t_day a_t_day_swing a_t_day_swing_kinds a_t_now : Nat → Nat} {N : Nat}  {v_t : US} {v_t_day : US} {v_t_day_swing : US} {v_t_now : US}  {res : Int32 × US × US × US} (C : MC RX11 cX11_code 4 (some .int) G A p s m args meth c)  (hf : b_X11_code_16 N v_t v_t_day v_t_day_swing v_t_now = some res) {H : Heap} {locs : List Loc} {ls : Array Slot} (h : HP G A s [uX11 G o_t a_t v_t, uX0 G (a_t 10) a_t_day v_t_day, uX8 G (a_t_day 0) a_t_day_swing v_t_day_swing, uX2 G (a_t_day_swing 0) a_t_day_swing_kinds, uX9 G (a_t 0) a_t_now v_t_now] H locs) (hl : lv_has ls 4 [(0, .ref o_t)]) : W p l e (rmm 7) s m args below meth c H locs 0 0 (QI below G A args s res.1 [uX11 G o_t a_t res.2.1, uX0 G (a_t 10) a_t_day res.2.2.1, uX8 G (a_t_day 0) a_t_day_swing res.2.2.2, uX2 G (a_t_day_swing 0) a_t_day_swing_kinds, uX9 G (a_t 0) a_t_now v_t_now]) (F0 m 16 ls []) := by
  unfold b_X11_code_16 at hf
  refine lv_aload_n C.hx C.hb dX11_code_16 rfl (lv_at hl 0 rfl) ?_
  refine lv_bipush (v := (-10)) C.hx C.hb dX11_code_17 (by decide) ?_
  obtain ⟨zr1, zq2, hf⟩ := bd_some hf
  have zm3 := c_X11_bad l G o_t a_t (hf := zq2)
  refine g_goI C h zm3.1 (is := [0]) rfl rfl (g_runV C h (is := [0]) rfl rfl (As := [.int (-10)]) (rest := []) (zm3.2 _) vf_X11_83 0 0 rfl rfl hl.1 rfl rfl (Nat.le_of_ble_eq_true rfl) dX11_code_19 ⟨Nat.le_of_ble_eq_true rfl, Nat.le_of_ble_eq_true rfl⟩ ⟨Nat.le_refl _, Nat.le_refl _⟩) (us2 := [uX11 G o_t a_t zr1.2, uX0 G (a_t 10) a_t_day v_t_day, uX8 G (a_t_day 0) a_t_day_swing v_t_day_swing, uX2 G (a_t_day_swing 0) a_t_day_swing_kinds, uX9 G (a_t 0) a_t_now v_t_now]) rfl (fun H locs h => ?_)
  obtain rfl := Option.some.inj hf
  exact g_ret_i C h rfl rfl dX11_code_22
set_option maxRecDepth 100000 in
set_option maxHeartbeats 4000000 in
theorem c_X11_code (l : Launch) (G : GG) (o_t : Nat) (a_t a_t_day a_t_day_swing a_t_day_swing_kinds a_t_now : Nat → Nat) (N : Nat) {v_t : US} {v_t_day : US} {v_t_day_swing : US} {v_t_now : US} {x1 : Int32} {x2 : Int32} {res : Int32 × US × US × US} (hf : f_X11_code N v_t v_t_day v_t_day_swing v_t_now x1 x2 = some res) : MI l yX11_code cX11_code 4 (some .int) 7 [.ref o_t, .int x1, .int x2] G [uX11 G o_t a_t v_t, uX0 G (a_t 10) a_t_day v_t_day, uX8 G (a_t_day 0) a_t_day_swing v_t_day_swing, uX2 G (a_t_day_swing 0) a_t_day_swing_kinds, uX9 G (a_t 0) a_t_now v_t_now] res.1 [uX11 G o_t a_t res.2.1, uX0 G (a_t 10) a_t_day res.2.2.1, uX8 G (a_t_day 0) a_t_day_swing res.2.2.2, uX2 G (a_t_day_swing 0) a_t_day_swing_kinds, uX9 G (a_t 0) a_t_now v_t_now] := by
  unfold f_X11_code at hf
  refine MI.intro (by decide) rfl (Nat.le_of_ble_eq_true rfl) (fun p e s m args below meth c A ls C h hl => ?_)
  have C : MC RX11 cX11_code 4 (some .int) G A p s m args meth c := C
  have hl : lv_has ls 4 [(0, .ref o_t), (1, .int x1), (2, .int x2)] := hl
  refine lv_aload_n C.hx C.hb dX11_code_0 rfl (lv_at hl 0 rfl) ?_
  refine g_get C h fl_X11_12 0 0 rfl rfl (v := .ref (a_t 0)) rfl dX11_code_1 ?_
  refine lv_iload_n C.hx C.hb dX11_code_4 rfl (lv_at hl 1 rfl) ?_
  obtain ⟨zr1, zq2, hf⟩ := bd_some hf
  have zm3 := c_X9_hasSet l G (a_t 0) a_t_now (hf := zq2)
  refine g_goI C h zm3.1 (is := [4]) rfl rfl (g_runV C h (is := [4]) rfl rfl (As := [.int x1]) (rest := []) (zm3.2 _) vf_X11_174 4 0 rfl rfl hl.1 rfl rfl (Nat.le_of_ble_eq_true rfl) dX11_code_5 ⟨Nat.le_of_ble_eq_true rfl, Nat.le_of_ble_eq_true rfl⟩ ⟨Nat.le_refl _, Nat.le_refl _⟩) (us2 := [uX11 G o_t a_t v_t, uX0 G (a_t 10) a_t_day v_t_day, uX8 G (a_t_day 0) a_t_day_swing v_t_day_swing, uX2 G (a_t_day_swing 0) a_t_day_swing_kinds, uX9 G (a_t 0) a_t_now v_t_now]) rfl (fun H locs h => ?_)
  refine lv_if_eq (tgt := 16) C.hx C.hb dX11_code_8 (by decide) (fun zc4 => ?_) (fun zc4 => ?_)
  · replace hf := it_t zc4 hf
    exact w_X11_code_16 C  hf h (lv_sub hl [0] rfl)
  · replace hf := it_f zc4 hf
    refine lv_iload_n C.hx C.hb dX11_code_11 rfl (lv_at hl 2 rfl) ?_
    refine lv_iconst (v := (-1)) C.hx C.hb dX11_code_12 (by decide) ?_
    refine lv_icmp_ge (tgt := 23) C.hx C.hb dX11_code_13 (by decide) (fun zc5 => ?_) (fun zc5 => ?_)
    · replace hf := it_t zc5 hf
      refine lv_aload_n C.hx C.hb dX11_code_23 rfl (lv_at hl 0 rfl) ?_
      refine g_get C h fl_X11_61 0 0 rfl rfl (v := .ref (a_t 10)) rfl dX11_code_24 ?_
      refine lv_aload_n C.hx C.hb dX11_code_27 rfl (lv_at hl 0 rfl) ?_
      refine g_get C h fl_X11_12 0 0 rfl rfl (v := .ref (a_t 0)) rfl dX11_code_28 ?_
      obtain ⟨zr6, zq7, hf⟩ := bd_some hf
      have zm8 := c_X0_findCodes l G (a_t 10) (a_t 0) a_t_now a_t_day a_t_day_swing a_t_day_swing_kinds N (hf := zq7)
      refine g_goV C h zm8.1 (is := [1, 4, 2, 3]) rfl rfl (g_runV C h (is := [1, 4, 2, 3]) rfl rfl (As := [.ref (a_t 0)]) (rest := []) (zm8.2 _) vf_X11_177 1 0 rfl rfl hl.1 rfl rfl (Nat.le_of_ble_eq_true rfl) dX11_code_31 ⟨Nat.le_of_ble_eq_true rfl, Nat.le_of_ble_eq_true rfl⟩ ⟨Nat.le_refl _, Nat.le_refl _⟩) (us2 := [uX11 G o_t a_t v_t, uX0 G (a_t 10) a_t_day zr6.1, uX8 G (a_t_day 0) a_t_day_swing zr6.2, uX2 G (a_t_day_swing 0) a_t_day_swing_kinds, uX9 G (a_t 0) a_t_now v_t_now]) rfl (fun H locs h => ?_)
      refine lv_aload_n C.hx C.hb dX11_code_34 rfl (lv_at hl 0 rfl) ?_
      refine g_get C h fl_X11_61 0 0 rfl rfl (v := .ref (a_t 10)) rfl dX11_code_35 ?_
      refine g_get C h fl_X11_180 1 0 rfl rfl (v := .ref (a_t_day 8)) rfl dX11_code_38 ?_
      refine lv_iload_n C.hx C.hb dX11_code_41 rfl (lv_at hl 1 rfl) ?_
      obtain ⟨zi9, hf⟩ := ck_some hf
      refine g_iald C h 1 6 rfl rfl (f := zr6.1.2.2 8) zi9 dX11_code_42 ?_
      refine lv_istore_n (lv' := [(3, .int ((zr6.1.2.2 8) x1.toNatClampNeg)), (0, .ref o_t), (1, .int x1), (2, .int x2)]) C.hx C.hb dX11_code_43 rfl hl (by decide) rfl (fun ls hl => ?_)
      refine lv_iload_n C.hx C.hb dX11_code_44 rfl (lv_at hl 3 rfl) ?_
      refine lv_iconst (v := (-1)) C.hx C.hb dX11_code_45 (by decide) ?_
      refine lv_icmp_eq (tgt := 54) C.hx C.hb dX11_code_46 (by decide) (fun zc10 => ?_) (fun zc10 => ?_)
      · replace hf := it_t zc10 hf
        refine lv_iload_n C.hx C.hb dX11_code_54 rfl (lv_at hl 0 rfl) ?_
        obtain rfl := Option.some.inj hf
        exact g_ret_i C h rfl rfl dX11_code_55
      · replace hf := it_f zc10 hf
        refine lv_iload_n C.hx C.hb dX11_code_49 rfl (lv_at hl 0 rfl) ?_
        refine lv_iconst (v := (-1)) C.hx C.hb dX11_code_50 (by decide) ?_
        refine lv_icmp_ne (tgt := 56) C.hx C.hb dX11_code_51 (by decide) (fun zc11 => ?_) (fun zc11 => ?_)
        · replace hf := it_f zc11 hf
          refine lv_iload_n C.hx C.hb dX11_code_56 rfl (lv_at hl 3 rfl) ?_
          refine lv_iload_n C.hx C.hb dX11_code_57 rfl (lv_at hl 0 rfl) ?_
          refine lv_icmp_lt (tgt := 66) C.hx C.hb dX11_code_58 (by decide) (fun zc12 => ?_) (fun zc12 => ?_)
          · replace hf := it_t zc12 hf
            refine lv_aload_n C.hx C.hb dX11_code_66 rfl (lv_at hl 1 rfl) ?_
            refine g_get C h fl_X11_61 0 0 rfl rfl (v := .ref (a_t 10)) rfl dX11_code_67 ?_
            refine lv_iload_n C.hx C.hb dX11_code_70 rfl (lv_at hl 2 rfl) ?_
            refine lv_iload_n C.hx C.hb dX11_code_71 rfl (lv_at hl 3 rfl) ?_
            obtain ⟨zr13, zq14, hf⟩ := bd_some hf
            have zm15 := c_X0_stepTo l G (a_t 10) a_t_day N (hf := zq14)
            refine g_goI C h zm15.1 (is := [1]) rfl rfl (g_runV C h (is := [1]) rfl rfl (As := [.int x1, .int x2]) (rest := []) (zm15.2 _) vf_X11_183 1 0 rfl rfl hl.1 rfl rfl (Nat.le_of_ble_eq_true rfl) dX11_code_72 ⟨Nat.le_of_ble_eq_true rfl, Nat.le_of_ble_eq_true rfl⟩ ⟨Nat.le_refl _, Nat.le_refl _⟩) (us2 := [uX11 G o_t a_t v_t, uX0 G (a_t 10) a_t_day zr6.1, uX8 G (a_t_day 0) a_t_day_swing zr6.2, uX2 G (a_t_day_swing 0) a_t_day_swing_kinds, uX9 G (a_t 0) a_t_now v_t_now]) rfl (fun H locs h => ?_)
            obtain rfl := Option.some.inj hf
            exact g_ret_i C h rfl rfl dX11_code_75
          · replace hf := it_f zc12 hf
            refine lv_bipush (v := (-5)) C.hx C.hb dX11_code_61 (by decide) ?_
            refine lv_goto (tgt := 75) C.hx C.hb dX11_code_63 (by decide) ?_
            obtain rfl := Option.some.inj hf
            exact g_ret_i C h rfl rfl dX11_code_75
        · replace hf := it_t zc11 hf
          refine lv_iload_n C.hx C.hb dX11_code_54 rfl (lv_at hl 0 rfl) ?_
          obtain rfl := Option.some.inj hf
          exact g_ret_i C h rfl rfl dX11_code_55
    · replace hf := it_f zc5 hf
      exact w_X11_code_16 C  hf h (lv_sub hl [0] rfl)

def f_X11_howMany (v_t : US) (v_t_now : US) (x1 : Int32) : Option (Int32) :=
  if x1 = 0 then (some (v_t_now.1 0)) else (if x1 = 1 then ((f_J6_bitCount_0f7a4 (v_t_now.1 5)).bind fun zr3 => some (zr3)) else (if x1 = 2 then (some (v_t_now.1 8)) else (if x1 = 3 then (some (v_t_now.1 11)) else (if x1 = 4 then (some (v_t_now.1 15)) else (if x1 = 5 then (some (v_t.1 3)) else (some (v_t_now.1 6)))))))
set_option maxRecDepth 100000 in
set_option maxHeartbeats 4000000 in
theorem c_X11_howMany (l : Launch) (G : GG) (o_t : Nat) (a_t a_t_now : Nat → Nat) {v_t : US} {v_t_now : US} {x1 : Int32} {res : Int32} (hf : f_X11_howMany v_t v_t_now x1 = some res) : MI l yX11_howMany cX11_howMany 2 (some .int) 2 [.ref o_t, .int x1] G [uX11 G o_t a_t v_t, uX9 G (a_t 0) a_t_now v_t_now] res [uX11 G o_t a_t v_t, uX9 G (a_t 0) a_t_now v_t_now] := by
  unfold f_X11_howMany at hf
  refine MI.intro (by decide) rfl (Nat.le_of_ble_eq_true rfl) (fun p e s m args below meth c A ls C h hl => ?_)
  have C : MC RX11 cX11_howMany 2 (some .int) G A p s m args meth c := C
  have hl : lv_has ls 2 [(0, .ref o_t), (1, .int x1)] := hl
  refine lv_iload_n C.hx C.hb dX11_howMany_0 rfl (lv_at hl 1 rfl) ?_
  by_cases zc1 : x1 = 0
  · replace hf := it_t zc1 hf
    refine lv_tableIn (tgt := 40) (off := 39) C.hx C.hb dX11_howMany_1 (by rw [zc1]; decide) (by rw [zc1]; decide) (by rw [zc1]; rfl) (by decide) ?_
    refine lv_aload_n C.hx C.hb dX11_howMany_40 rfl (lv_at hl 0 rfl) ?_
    refine g_get C h fl_X11_12 0 0 rfl rfl (v := .ref (a_t 0)) rfl dX11_howMany_41 ?_
    refine g_get C h fl_X11_87 1 0 rfl rfl (v := .int (v_t_now.1 0)) rfl dX11_howMany_44 ?_
    obtain rfl := Option.some.inj hf
    exact g_ret_i C h rfl rfl dX11_howMany_47
  replace hf := it_f zc1 hf
  by_cases zc2 : x1 = 1
  · replace hf := it_t zc2 hf
    refine lv_tableIn (tgt := 48) (off := 47) C.hx C.hb dX11_howMany_1 (by rw [zc2]; decide) (by rw [zc2]; decide) (by rw [zc2]; rfl) (by decide) ?_
    refine lv_aload_n C.hx C.hb dX11_howMany_48 rfl (lv_at hl 0 rfl) ?_
    refine g_get C h fl_X11_12 0 0 rfl rfl (v := .ref (a_t 0)) rfl dX11_howMany_49 ?_
    refine g_get C h fl_X11_102 1 0 rfl rfl (v := .int (v_t_now.1 5)) rfl dX11_howMany_52 ?_
    obtain ⟨zr3, zq4, hf⟩ := bd_some hf
    have zm5 := c_J6_bitCount_0f7a4 l G  (hf := zq4)
    refine g_goI C h zm5.1 (is := []) rfl rfl (g_runT C h (is := []) rfl rfl (As := [.int (v_t_now.1 5)]) (rest := []) (zm5.2 _) tf_X11_258 hl.1 rfl rfl (Nat.le_of_ble_eq_true rfl) dX11_howMany_55 ⟨Nat.le_of_ble_eq_true rfl, Nat.le_of_ble_eq_true rfl⟩ ⟨Nat.le_refl _, Nat.le_refl _⟩) (us2 := [uX11 G o_t a_t v_t, uX9 G (a_t 0) a_t_now v_t_now]) rfl (fun H locs h => ?_)
    obtain rfl := Option.some.inj hf
    exact g_ret_i C h rfl rfl dX11_howMany_58
  replace hf := it_f zc2 hf
  by_cases zc6 : x1 = 2
  · replace hf := it_t zc6 hf
    refine lv_tableIn (tgt := 59) (off := 58) C.hx C.hb dX11_howMany_1 (by rw [zc6]; decide) (by rw [zc6]; decide) (by rw [zc6]; rfl) (by decide) ?_
    refine lv_aload_n C.hx C.hb dX11_howMany_59 rfl (lv_at hl 0 rfl) ?_
    refine g_get C h fl_X11_12 0 0 rfl rfl (v := .ref (a_t 0)) rfl dX11_howMany_60 ?_
    refine g_get C h fl_X11_158 1 0 rfl rfl (v := .int (v_t_now.1 8)) rfl dX11_howMany_63 ?_
    obtain rfl := Option.some.inj hf
    exact g_ret_i C h rfl rfl dX11_howMany_66
  replace hf := it_f zc6 hf
  by_cases zc7 : x1 = 3
  · replace hf := it_t zc7 hf
    refine lv_tableIn (tgt := 67) (off := 66) C.hx C.hb dX11_howMany_1 (by rw [zc7]; decide) (by rw [zc7]; decide) (by rw [zc7]; rfl) (by decide) ?_
    refine lv_aload_n C.hx C.hb dX11_howMany_67 rfl (lv_at hl 0 rfl) ?_
    refine g_get C h fl_X11_12 0 0 rfl rfl (v := .ref (a_t 0)) rfl dX11_howMany_68 ?_
    refine g_get C h fl_X11_207 1 0 rfl rfl (v := .int (v_t_now.1 11)) rfl dX11_howMany_71 ?_
    obtain rfl := Option.some.inj hf
    exact g_ret_i C h rfl rfl dX11_howMany_74
  replace hf := it_f zc7 hf
  by_cases zc8 : x1 = 4
  · replace hf := it_t zc8 hf
    refine lv_tableIn (tgt := 75) (off := 74) C.hx C.hb dX11_howMany_1 (by rw [zc8]; decide) (by rw [zc8]; decide) (by rw [zc8]; rfl) (by decide) ?_
    refine lv_aload_n C.hx C.hb dX11_howMany_75 rfl (lv_at hl 0 rfl) ?_
    refine g_get C h fl_X11_12 0 0 rfl rfl (v := .ref (a_t 0)) rfl dX11_howMany_76 ?_
    refine g_get C h fl_X11_152 1 0 rfl rfl (v := .int (v_t_now.1 15)) rfl dX11_howMany_79 ?_
    obtain rfl := Option.some.inj hf
    exact g_ret_i C h rfl rfl dX11_howMany_82
  replace hf := it_f zc8 hf
  by_cases zc9 : x1 = 5
  · replace hf := it_t zc9 hf
    refine lv_tableIn (tgt := 83) (off := 82) C.hx C.hb dX11_howMany_1 (by rw [zc9]; decide) (by rw [zc9]; decide) (by rw [zc9]; rfl) (by decide) ?_
    refine lv_aload_n C.hx C.hb dX11_howMany_83 rfl (lv_at hl 0 rfl) ?_
    refine g_get C h fl_X11_24 0 0 rfl rfl (v := .int (v_t.1 3)) rfl dX11_howMany_84 ?_
    obtain rfl := Option.some.inj hf
    exact g_ret_i C h rfl rfl dX11_howMany_87
  replace hf := it_f zc9 hf
  refine lv_tableOut (tgt := 88) C.hx C.hb dX11_howMany_1 (by have ezc1 := lv_neT (a := 0) zc1 (by decide); have ezc2 := lv_neT (a := 1) zc2 (by decide); have ezc6 := lv_neT (a := 2) zc6 (by decide); have ezc7 := lv_neT (a := 3) zc7 (by decide); have ezc8 := lv_neT (a := 4) zc8 (by decide); have ezc9 := lv_neT (a := 5) zc9 (by decide); omega) (by decide) ?_
  refine lv_aload_n C.hx C.hb dX11_howMany_88 rfl (lv_at hl 0 rfl) ?_
  refine g_get C h fl_X11_12 0 0 rfl rfl (v := .ref (a_t 0)) rfl dX11_howMany_89 ?_
  refine g_get C h fl_X11_112 1 0 rfl rfl (v := .int (v_t_now.1 6)) rfl dX11_howMany_92 ?_
  obtain rfl := Option.some.inj hf
  exact g_ret_i C h rfl rfl dX11_howMany_95

def f_X11_count (v_t : US) (v_t_now : US) (x1 : Int32) : Option (Int32 × US) :=
  (f_X11_within x1 0 6).bind fun zr1 => if (b2i zr1) = 0 then ((f_X11_bad v_t (-2)).bind fun zr8 => some (zr8.1, zr8.2)) else ((f_X11_howMany v_t v_t_now x1).bind fun zr5 => some (zr5, v_t))
set_option maxRecDepth 100000 in
set_option maxHeartbeats 4000000 in
theorem c_X11_count (l : Launch) (G : GG) (o_t : Nat) (a_t a_t_now : Nat → Nat) {v_t : US} {v_t_now : US} {x1 : Int32} {res : Int32 × US} (hf : f_X11_count v_t v_t_now x1 = some res) : MI l yX11_count cX11_count 2 (some .int) 3 [.ref o_t, .int x1] G [uX11 G o_t a_t v_t, uX9 G (a_t 0) a_t_now v_t_now] res.1 [uX11 G o_t a_t res.2, uX9 G (a_t 0) a_t_now v_t_now] := by
  unfold f_X11_count at hf
  refine MI.intro (by decide) rfl (Nat.le_of_ble_eq_true rfl) (fun p e s m args below meth c A ls C h hl => ?_)
  have C : MC RX11 cX11_count 2 (some .int) G A p s m args meth c := C
  have hl : lv_has ls 2 [(0, .ref o_t), (1, .int x1)] := hl
  refine lv_iload_n C.hx C.hb dX11_count_0 rfl (lv_at hl 1 rfl) ?_
  refine lv_iconst (v := 0) C.hx C.hb dX11_count_1 (by decide) ?_
  refine lv_bipush (v := 6) C.hx C.hb dX11_count_2 (by decide) ?_
  obtain ⟨zr1, zq2, hf⟩ := bd_some hf
  have zm3 := c_X11_within l G  (hf := zq2)
  refine g_goI C h zm3.1 (is := []) rfl rfl (g_runS C h (is := []) rfl rfl (As := [.int x1, .int 0, .int 6]) (rest := []) (zm3.2 _) sf_X11_79 hl.1 rfl rfl (Nat.le_of_ble_eq_true rfl) dX11_count_4 ⟨Nat.le_of_ble_eq_true rfl, Nat.le_of_ble_eq_true rfl⟩ ⟨Nat.le_refl _, Nat.le_refl _⟩) (us2 := [uX11 G o_t a_t v_t, uX9 G (a_t 0) a_t_now v_t_now]) rfl (fun H locs h => ?_)
  refine lv_if_ne (tgt := 17) C.hx C.hb dX11_count_7 (by decide) (fun zc4 => ?_) (fun zc4 => ?_)
  · replace hf := it_f zc4 hf
    refine lv_aload_n C.hx C.hb dX11_count_17 rfl (lv_at hl 0 rfl) ?_
    refine lv_iload_n C.hx C.hb dX11_count_18 rfl (lv_at hl 1 rfl) ?_
    obtain ⟨zr5, zq6, hf⟩ := bd_some hf
    have zm7 := c_X11_howMany l G o_t a_t a_t_now (hf := zq6)
    refine g_goI C h zm7.1 (is := [0, 1]) rfl rfl (g_runV C h (is := [0, 1]) rfl rfl (As := [.int x1]) (rest := []) (zm7.2 _) vf_X11_241 0 0 rfl rfl hl.1 rfl rfl (Nat.le_of_ble_eq_true rfl) dX11_count_19 ⟨Nat.le_of_ble_eq_true rfl, Nat.le_of_ble_eq_true rfl⟩ ⟨Nat.le_refl _, Nat.le_refl _⟩) (us2 := [uX11 G o_t a_t v_t, uX9 G (a_t 0) a_t_now v_t_now]) rfl (fun H locs h => ?_)
    obtain rfl := Option.some.inj hf
    exact g_ret_i C h rfl rfl dX11_count_22
  · replace hf := it_t zc4 hf
    refine lv_aload_n C.hx C.hb dX11_count_10 rfl (lv_at hl 0 rfl) ?_
    refine lv_bipush (v := (-2)) C.hx C.hb dX11_count_11 (by decide) ?_
    obtain ⟨zr8, zq9, hf⟩ := bd_some hf
    have zm10 := c_X11_bad l G o_t a_t (hf := zq9)
    refine g_goI C h zm10.1 (is := [0]) rfl rfl (g_runV C h (is := [0]) rfl rfl (As := [.int (-2)]) (rest := []) (zm10.2 _) vf_X11_83 0 0 rfl rfl hl.1 rfl rfl (Nat.le_of_ble_eq_true rfl) dX11_count_13 ⟨Nat.le_of_ble_eq_true rfl, Nat.le_of_ble_eq_true rfl⟩ ⟨Nat.le_refl _, Nat.le_refl _⟩) (us2 := [uX11 G o_t a_t zr8.2, uX9 G (a_t 0) a_t_now v_t_now]) rfl (fun H locs h => ?_)
    obtain rfl := Option.some.inj hf
    exact g_ret_i C h rfl rfl dX11_count_16

def f_X11_cuts (N : Nat) (v_t : US) (v_t_day : US) (v_t_day_swing : US) (v_t_now : US) (x1 : Int32) : Option (Int32 × US × US × US) :=
  (f_X9_hasSet v_t_now x1).bind fun zr1 => if (b2i zr1) = 0 then ((f_X11_bad v_t (-10)).bind fun zr8 => some (zr8.1, zr8.2, v_t_day, v_t_day_swing)) else ((f_X0_fewestCuts N v_t_day v_t_now v_t_day_swing x1).bind fun zr5 => some (zr5.1, v_t, zr5.2.1, zr5.2.2))
set_option maxRecDepth 100000 in
set_option maxHeartbeats 4000000 in
theorem c_X11_cuts (l : Launch) (G : GG) (o_t : Nat) (a_t a_t_day a_t_day_swing a_t_day_swing_kinds a_t_now : Nat → Nat) (N : Nat) {v_t : US} {v_t_day : US} {v_t_day_swing : US} {v_t_now : US} {x1 : Int32} {res : Int32 × US × US × US} (hf : f_X11_cuts N v_t v_t_day v_t_day_swing v_t_now x1 = some res) : MI l yX11_cuts cX11_cuts 2 (some .int) 7 [.ref o_t, .int x1] G [uX11 G o_t a_t v_t, uX0 G (a_t 10) a_t_day v_t_day, uX8 G (a_t_day 0) a_t_day_swing v_t_day_swing, uX2 G (a_t_day_swing 0) a_t_day_swing_kinds, uX9 G (a_t 0) a_t_now v_t_now] res.1 [uX11 G o_t a_t res.2.1, uX0 G (a_t 10) a_t_day res.2.2.1, uX8 G (a_t_day 0) a_t_day_swing res.2.2.2, uX2 G (a_t_day_swing 0) a_t_day_swing_kinds, uX9 G (a_t 0) a_t_now v_t_now] := by
  unfold f_X11_cuts at hf
  refine MI.intro (by decide) rfl (Nat.le_of_ble_eq_true rfl) (fun p e s m args below meth c A ls C h hl => ?_)
  have C : MC RX11 cX11_cuts 2 (some .int) G A p s m args meth c := C
  have hl : lv_has ls 2 [(0, .ref o_t), (1, .int x1)] := hl
  refine lv_aload_n C.hx C.hb dX11_cuts_0 rfl (lv_at hl 0 rfl) ?_
  refine g_get C h fl_X11_12 0 0 rfl rfl (v := .ref (a_t 0)) rfl dX11_cuts_1 ?_
  refine lv_iload_n C.hx C.hb dX11_cuts_4 rfl (lv_at hl 1 rfl) ?_
  obtain ⟨zr1, zq2, hf⟩ := bd_some hf
  have zm3 := c_X9_hasSet l G (a_t 0) a_t_now (hf := zq2)
  refine g_goI C h zm3.1 (is := [4]) rfl rfl (g_runV C h (is := [4]) rfl rfl (As := [.int x1]) (rest := []) (zm3.2 _) vf_X11_174 4 0 rfl rfl hl.1 rfl rfl (Nat.le_of_ble_eq_true rfl) dX11_cuts_5 ⟨Nat.le_of_ble_eq_true rfl, Nat.le_of_ble_eq_true rfl⟩ ⟨Nat.le_refl _, Nat.le_refl _⟩) (us2 := [uX11 G o_t a_t v_t, uX0 G (a_t 10) a_t_day v_t_day, uX8 G (a_t_day 0) a_t_day_swing v_t_day_swing, uX2 G (a_t_day_swing 0) a_t_day_swing_kinds, uX9 G (a_t 0) a_t_now v_t_now]) rfl (fun H locs h => ?_)
  refine lv_if_ne (tgt := 18) C.hx C.hb dX11_cuts_8 (by decide) (fun zc4 => ?_) (fun zc4 => ?_)
  · replace hf := it_f zc4 hf
    refine lv_aload_n C.hx C.hb dX11_cuts_18 rfl (lv_at hl 0 rfl) ?_
    refine g_get C h fl_X11_61 0 0 rfl rfl (v := .ref (a_t 10)) rfl dX11_cuts_19 ?_
    refine lv_aload_n C.hx C.hb dX11_cuts_22 rfl (lv_at hl 0 rfl) ?_
    refine g_get C h fl_X11_12 0 0 rfl rfl (v := .ref (a_t 0)) rfl dX11_cuts_23 ?_
    refine lv_iload_n C.hx C.hb dX11_cuts_26 rfl (lv_at hl 1 rfl) ?_
    obtain ⟨zr5, zq6, hf⟩ := bd_some hf
    have zm7 := c_X0_fewestCuts l G (a_t 10) (a_t 0) a_t_now a_t_day a_t_day_swing a_t_day_swing_kinds N (hf := zq6)
    refine g_goI C h zm7.1 (is := [1, 4, 2, 3]) rfl rfl (g_runV C h (is := [1, 4, 2, 3]) rfl rfl (As := [.ref (a_t 0), .int x1]) (rest := []) (zm7.2 _) vf_X11_203 1 0 rfl rfl hl.1 rfl rfl (Nat.le_of_ble_eq_true rfl) dX11_cuts_27 ⟨Nat.le_of_ble_eq_true rfl, Nat.le_of_ble_eq_true rfl⟩ ⟨Nat.le_refl _, Nat.le_refl _⟩) (us2 := [uX11 G o_t a_t v_t, uX0 G (a_t 10) a_t_day zr5.2.1, uX8 G (a_t_day 0) a_t_day_swing zr5.2.2, uX2 G (a_t_day_swing 0) a_t_day_swing_kinds, uX9 G (a_t 0) a_t_now v_t_now]) rfl (fun H locs h => ?_)
    obtain rfl := Option.some.inj hf
    exact g_ret_i C h rfl rfl dX11_cuts_30
  · replace hf := it_t zc4 hf
    refine lv_aload_n C.hx C.hb dX11_cuts_11 rfl (lv_at hl 0 rfl) ?_
    refine lv_bipush (v := (-10)) C.hx C.hb dX11_cuts_12 (by decide) ?_
    obtain ⟨zr8, zq9, hf⟩ := bd_some hf
    have zm10 := c_X11_bad l G o_t a_t (hf := zq9)
    refine g_goI C h zm10.1 (is := [0]) rfl rfl (g_runV C h (is := [0]) rfl rfl (As := [.int (-10)]) (rest := []) (zm10.2 _) vf_X11_83 0 0 rfl rfl hl.1 rfl rfl (Nat.le_of_ble_eq_true rfl) dX11_cuts_14 ⟨Nat.le_of_ble_eq_true rfl, Nat.le_of_ble_eq_true rfl⟩ ⟨Nat.le_refl _, Nat.le_refl _⟩) (us2 := [uX11 G o_t a_t zr8.2, uX0 G (a_t 10) a_t_day v_t_day, uX8 G (a_t_day 0) a_t_day_swing v_t_day_swing, uX2 G (a_t_day_swing 0) a_t_day_swing_kinds, uX9 G (a_t 0) a_t_now v_t_now]) rfl (fun H locs h => ?_)
    obtain rfl := Option.some.inj hf
    exact g_ret_i C h rfl rfl dX11_cuts_17

def f_X11_damp (v_t : US) (v_t_now : US) (x1 : Int32) : Option (Int32 × US × US) :=
  (f_X11_within x1 0 9).bind fun zr1 => if (b2i zr1) = 0 then ((f_X11_bad v_t (-2)).bind fun zr5 => some (zr5.1, zr5.2, v_t_now)) else (some (v_t_now.1 6, v_t, upi v_t_now 6 x1))
set_option maxRecDepth 100000 in
set_option maxHeartbeats 4000000 in
theorem c_X11_damp (l : Launch) (G : GG) (o_t : Nat) (a_t a_t_now : Nat → Nat) {v_t : US} {v_t_now : US} {x1 : Int32} {res : Int32 × US × US} (hf : f_X11_damp v_t v_t_now x1 = some res) : MI l yX11_damp cX11_damp 3 (some .int) 2 [.ref o_t, .int x1] G [uX11 G o_t a_t v_t, uX9 G (a_t 0) a_t_now v_t_now] res.1 [uX11 G o_t a_t res.2.1, uX9 G (a_t 0) a_t_now res.2.2] := by
  unfold f_X11_damp at hf
  refine MI.intro (by decide) rfl (Nat.le_of_ble_eq_true rfl) (fun p e s m args below meth c A ls C h hl => ?_)
  have C : MC RX11 cX11_damp 3 (some .int) G A p s m args meth c := C
  have hl : lv_has ls 3 [(0, .ref o_t), (1, .int x1)] := hl
  refine lv_iload_n C.hx C.hb dX11_damp_0 rfl (lv_at hl 1 rfl) ?_
  refine lv_iconst (v := 0) C.hx C.hb dX11_damp_1 (by decide) ?_
  refine lv_bipush (v := 9) C.hx C.hb dX11_damp_2 (by decide) ?_
  obtain ⟨zr1, zq2, hf⟩ := bd_some hf
  have zm3 := c_X11_within l G  (hf := zq2)
  refine g_goI C h zm3.1 (is := []) rfl rfl (g_runS C h (is := []) rfl rfl (As := [.int x1, .int 0, .int 9]) (rest := []) (zm3.2 _) sf_X11_79 hl.1 rfl rfl (Nat.le_of_ble_eq_true rfl) dX11_damp_4 ⟨Nat.le_of_ble_eq_true rfl, Nat.le_of_ble_eq_true rfl⟩ ⟨Nat.le_refl _, Nat.le_refl _⟩) (us2 := [uX11 G o_t a_t v_t, uX9 G (a_t 0) a_t_now v_t_now]) rfl (fun H locs h => ?_)
  refine lv_if_ne (tgt := 17) C.hx C.hb dX11_damp_7 (by decide) (fun zc4 => ?_) (fun zc4 => ?_)
  · replace hf := it_f zc4 hf
    refine lv_aload_n C.hx C.hb dX11_damp_17 rfl (lv_at hl 0 rfl) ?_
    refine g_get C h fl_X11_12 0 0 rfl rfl (v := .ref (a_t 0)) rfl dX11_damp_18 ?_
    refine g_get C h fl_X11_112 1 0 rfl rfl (v := .int (v_t_now.1 6)) rfl dX11_damp_21 ?_
    refine lv_istore_n (lv' := [(2, .int (v_t_now.1 6)), (0, .ref o_t), (1, .int x1)]) C.hx C.hb dX11_damp_24 rfl hl (by decide) rfl (fun ls hl => ?_)
    refine lv_aload_n C.hx C.hb dX11_damp_25 rfl (lv_at hl 1 rfl) ?_
    refine g_get C h fl_X11_12 0 0 rfl rfl (v := .ref (a_t 0)) rfl dX11_damp_26 ?_
    refine lv_iload_n C.hx C.hb dX11_damp_29 rfl (lv_at hl 2 rfl) ?_
    refine g_put C h fp_X11_112 1 0 rfl rfl rfl rfl (Nat.le_of_ble_eq_true rfl) dX11_damp_30 (u' := uX9 G (a_t 0) a_t_now (upi v_t_now 6 x1)) (us' := [uX11 G o_t a_t v_t, uX9 G (a_t 0) a_t_now (upi v_t_now 6 x1)]) rfl rfl (fun H locs h => ?_)
    refine lv_iload_n C.hx C.hb dX11_damp_33 rfl (lv_at hl 0 rfl) ?_
    obtain rfl := Option.some.inj hf
    exact g_ret_i C h rfl rfl dX11_damp_34
  · replace hf := it_t zc4 hf
    refine lv_aload_n C.hx C.hb dX11_damp_10 rfl (lv_at hl 0 rfl) ?_
    refine lv_bipush (v := (-2)) C.hx C.hb dX11_damp_11 (by decide) ?_
    obtain ⟨zr5, zq6, hf⟩ := bd_some hf
    have zm7 := c_X11_bad l G o_t a_t (hf := zq6)
    refine g_goI C h zm7.1 (is := [0]) rfl rfl (g_runV C h (is := [0]) rfl rfl (As := [.int (-2)]) (rest := []) (zm7.2 _) vf_X11_83 0 0 rfl rfl hl.1 rfl rfl (Nat.le_of_ble_eq_true rfl) dX11_damp_13 ⟨Nat.le_of_ble_eq_true rfl, Nat.le_of_ble_eq_true rfl⟩ ⟨Nat.le_refl _, Nat.le_refl _⟩) (us2 := [uX11 G o_t a_t zr5.2, uX9 G (a_t 0) a_t_now v_t_now]) rfl (fun H locs h => ?_)
    obtain rfl := Option.some.inj hf
    exact g_ret_i C h rfl rfl dX11_damp_16

def b_X11_digest_6 (N : Nat) (g6 : US → US → Int64 → Int32 → Option (Int64)) (v_t : US) (v_t_now : US) (y1 : Int64) (y3 : Int32) : Option (Int64) :=
  if 6 < y3 then ((f_X9_mixInto N v_t_now y1).bind fun zr2 => some ((31 * ((31 * zr2) + (v_t.2.1 4))) + (v_t.2.1 5))) else ((f_X11_howMany v_t v_t_now y3).bind fun zr5 => g6 v_t v_t_now ((31 * y1) + zr5.toInt64) (y3 + 1))
def f_X11_digest_6 (N : Nat)  : Nat → US → US → Int64 → Int32 → Option (Int64)
  | 0 => fun _ _ _ _ => none
  | k + 1 => fun q0 q1 q2 q3 => b_X11_digest_6 N  (f_X11_digest_6 N  k) q0 q1 q2 q3
def f_X11_digest (N : Nat) (v_t : US) (v_t_now : US)  : Option (Int64) :=
  f_X11_digest_6 N N v_t v_t_now 773 0
set_option maxRecDepth 100000 in
set_option maxHeartbeats 4000000 in
theorem w_X11_digest_6 {p : Program} {l : Launch} {e : Env} {s : State} {m : MethodId} {args : Array Value} {below : List Frame} {meth : Method} {c : Code} {G : GG} {A : Nat → Prop} {o_t : Nat} {a_t a_t_now : Nat → Nat} {N : Nat} {g6 : US → US → Int64 → Int32 → Option (Int64)} {v_t : US} {v_t_now : US} {y1 : Int64} {y3 : Int32} {res : Int64} (C : MC RX11 cX11_digest 4 (some .long) G A p s m args meth c) (hg6 : ∀ {v_t : US} {v_t_now : US} {y1 : Int64} {y3 : Int32}, g6 v_t v_t_now y1 y3 = some res → ∀ {H : Heap} {locs : List Loc} {ls : Array Slot}, HP G A s [uX11 G o_t a_t v_t, uX9 G (a_t 0) a_t_now v_t_now] H locs → lv_has ls 4 [(0, .ref o_t), (1, .long y1), (3, .int y3)] → W p l e (rmm 3) s m args below meth c H locs 0 0 (QL below G A args s res [uX11 G o_t a_t v_t, uX9 G (a_t 0) a_t_now v_t_now]) (F0 m 6 ls [])) (hf : b_X11_digest_6 N g6 v_t v_t_now y1 y3 = some res) {H : Heap} {locs : List Loc} {ls : Array Slot} (h : HP G A s [uX11 G o_t a_t v_t, uX9 G (a_t 0) a_t_now v_t_now] H locs) (hl : lv_has ls 4 [(0, .ref o_t), (1, .long y1), (3, .int y3)]) : W p l e (rmm 3) s m args below meth c H locs 0 0 (QL below G A args s res [uX11 G o_t a_t v_t, uX9 G (a_t 0) a_t_now v_t_now]) (F0 m 6 ls []) := by
  unfold b_X11_digest_6 at hf
  refine lv_iload_n C.hx C.hb dX11_digest_6 rfl (lv_at hl 2 rfl) ?_
  refine lv_bipush (v := 6) C.hx C.hb dX11_digest_7 (by decide) ?_
  refine lv_icmp_gt (tgt := 31) C.hx C.hb dX11_digest_9 (by decide) (fun zc1 => ?_) (fun zc1 => ?_)
  · replace hf := it_t zc1 hf
    refine lv_aload_n C.hx C.hb dX11_digest_31 rfl (lv_at hl 0 rfl) ?_
    refine g_get C h fl_X11_12 0 0 rfl rfl (v := .ref (a_t 0)) rfl dX11_digest_32 ?_
    refine lv_lload_n C.hx C.hb dX11_digest_35 rfl (lv_at hl 1 rfl) ?_
    obtain ⟨zr2, zq3, hf⟩ := bd_some hf
    have zm4 := c_X9_mixInto l G (a_t 0) a_t_now N (hf := zq3)
    refine g_goL C h zm4.1 (is := [1]) rfl rfl (g_runV C h (is := [1]) rfl rfl (As := [.long y1]) (rest := []) (zm4.2 _) vf_X11_248 1 0 rfl rfl hl.1 rfl rfl (Nat.le_of_ble_eq_true rfl) dX11_digest_36 ⟨Nat.le_of_ble_eq_true rfl, Nat.le_of_ble_eq_true rfl⟩ ⟨Nat.le_refl _, Nat.le_refl _⟩) (us2 := [uX11 G o_t a_t v_t, uX9 G (a_t 0) a_t_now v_t_now]) rfl (fun H locs h => ?_)
    refine lv_lstore_n (lv' := [(1, .long zr2), (0, .ref o_t), (3, .int y3)]) C.hx C.hb dX11_digest_39 rfl hl (by decide) rfl (fun ls hl => ?_)
    refine lv_ldc2 C.hx C.hb C.hown (C.hts _ cw_X11_246) dX11_digest_40 ?_
    refine lv_lload_n C.hx C.hb dX11_digest_43 rfl (lv_at hl 0 rfl) ?_
    refine lv_lmul C.hx C.hb dX11_digest_44 ?_
    refine lv_aload_n C.hx C.hb dX11_digest_45 rfl (lv_at hl 1 rfl) ?_
    refine g_get C h fl_X11_28 0 0 rfl rfl (v := .long (v_t.2.1 4)) rfl dX11_digest_46 ?_
    refine lv_ladd C.hx C.hb dX11_digest_49 ?_
    refine lv_lstore_n (lv' := [(1, .long ((31 * zr2) + (v_t.2.1 4))), (0, .ref o_t), (3, .int y3)]) C.hx C.hb dX11_digest_50 rfl hl (by decide) rfl (fun ls hl => ?_)
    refine lv_ldc2 C.hx C.hb C.hown (C.hts _ cw_X11_246) dX11_digest_51 ?_
    refine lv_lload_n C.hx C.hb dX11_digest_54 rfl (lv_at hl 0 rfl) ?_
    refine lv_lmul C.hx C.hb dX11_digest_55 ?_
    refine lv_aload_n C.hx C.hb dX11_digest_56 rfl (lv_at hl 1 rfl) ?_
    refine g_get C h fl_X11_32 0 0 rfl rfl (v := .long (v_t.2.1 5)) rfl dX11_digest_57 ?_
    refine lv_ladd C.hx C.hb dX11_digest_60 ?_
    obtain rfl := Option.some.inj hf
    exact g_ret_l C h rfl rfl dX11_digest_61
  · replace hf := it_f zc1 hf
    refine lv_ldc2 C.hx C.hb C.hown (C.hts _ cw_X11_246) dX11_digest_12 ?_
    refine lv_lload_n C.hx C.hb dX11_digest_15 rfl (lv_at hl 1 rfl) ?_
    refine lv_lmul C.hx C.hb dX11_digest_16 ?_
    refine lv_aload_n C.hx C.hb dX11_digest_17 rfl (lv_at hl 0 rfl) ?_
    refine lv_iload_n C.hx C.hb dX11_digest_18 rfl (lv_at hl 2 rfl) ?_
    obtain ⟨zr5, zq6, hf⟩ := bd_some hf
    have zm7 := c_X11_howMany l G o_t a_t a_t_now (hf := zq6)
    refine g_goI C h zm7.1 (is := [0, 1]) rfl rfl (g_runV C h (is := [0, 1]) rfl rfl (As := [.int y3]) (rest := [.long (31 * y1)]) (zm7.2 _) vf_X11_241 0 0 rfl rfl hl.1 rfl rfl (Nat.le_of_ble_eq_true rfl) dX11_digest_19 ⟨Nat.le_of_ble_eq_true rfl, Nat.le_of_ble_eq_true rfl⟩ ⟨Nat.le_refl _, Nat.le_refl _⟩) (us2 := [uX11 G o_t a_t v_t, uX9 G (a_t 0) a_t_now v_t_now]) rfl (fun H locs h => ?_)
    refine lv_i2l C.hx C.hb dX11_digest_22 rfl ?_
    refine lv_ladd C.hx C.hb dX11_digest_23 ?_
    refine lv_lstore_n (lv' := [(1, .long ((31 * y1) + zr5.toInt64)), (0, .ref o_t), (3, .int y3)]) C.hx C.hb dX11_digest_24 rfl hl (by decide) rfl (fun ls hl => ?_)
    refine lv_iinc (v := y3 + 1) (lv' := [(3, .int (y3 + 1)), (1, .long ((31 * y1) + zr5.toInt64)), (0, .ref o_t)]) C.hx C.hb dX11_digest_25 hl (k := 2) rfl rfl (by decide) rfl (fun ls hl => ?_)
    refine lv_goto (tgt := 6) C.hx C.hb dX11_digest_28 (by decide) ?_
    exact hg6 hf h (lv_sub hl [2, 1, 0] rfl)
set_option maxRecDepth 100000 in
set_option maxHeartbeats 4000000 in
theorem l_X11_digest_6 {p : Program} {l : Launch} {e : Env} {s : State} {m : MethodId} {args : Array Value} {below : List Frame} {meth : Method} {c : Code} {G : GG} {A : Nat → Prop} {o_t : Nat} {a_t a_t_now : Nat → Nat} {N : Nat}  {res : Int64} (C : MC RX11 cX11_digest 4 (some .long) G A p s m args meth c)  : ∀ (k : Nat) {v_t : US} {v_t_now : US} {y1 : Int64} {y3 : Int32}, f_X11_digest_6 N k v_t v_t_now y1 y3 = some res → ∀ {H : Heap} {locs : List Loc} {ls : Array Slot}, HP G A s [uX11 G o_t a_t v_t, uX9 G (a_t 0) a_t_now v_t_now] H locs → lv_has ls 4 [(0, .ref o_t), (1, .long y1), (3, .int y3)] → W p l e (rmm 3) s m args below meth c H locs 0 0 (QL below G A args s res [uX11 G o_t a_t v_t, uX9 G (a_t 0) a_t_now v_t_now]) (F0 m 6 ls []) := by
  intro k
  induction k with
  | zero => intros; contradiction
  | succ k ih =>
    intro v_t v_t_now y1 y3 hf H locs ls h hl
    exact w_X11_digest_6 (N := N) C ih hf h hl
set_option maxRecDepth 100000 in
set_option maxHeartbeats 4000000 in
theorem c_X11_digest (l : Launch) (G : GG) (o_t : Nat) (a_t a_t_now : Nat → Nat) (N : Nat) {v_t : US} {v_t_now : US}  {res : Int64} (hf : f_X11_digest N v_t v_t_now = some res) : ML l yX11_digest cX11_digest 4 (some .long) 3 [.ref o_t] G [uX11 G o_t a_t v_t, uX9 G (a_t 0) a_t_now v_t_now] res [uX11 G o_t a_t v_t, uX9 G (a_t 0) a_t_now v_t_now] := by
  unfold f_X11_digest at hf
  refine ML.intro (by decide) rfl (Nat.le_of_ble_eq_true rfl) (fun p e s m args below meth c A ls C h hl => ?_)
  have C : MC RX11 cX11_digest 4 (some .long) G A p s m args meth c := C
  have hl : lv_has ls 4 [(0, .ref o_t)] := hl
  refine lv_ldc2 C.hx C.hb C.hown (C.hts _ cw_X11_244) dX11_digest_0 ?_
  refine lv_lstore_n (lv' := [(1, .long 773), (0, .ref o_t)]) C.hx C.hb dX11_digest_3 rfl hl (by decide) rfl (fun ls hl => ?_)
  refine lv_iconst (v := 0) C.hx C.hb dX11_digest_4 (by decide) ?_
  refine lv_istore_n (lv' := [(3, .int 0), (1, .long 773), (0, .ref o_t)]) C.hx C.hb dX11_digest_5 rfl hl (by decide) rfl (fun ls hl => ?_)
  exact l_X11_digest_6 C N hf h (lv_sub hl [2, 1, 0] rfl)

def f_X11_refusedNow (v_t : US)  : Option (Int32 × US) :=
  some ((-3), upi v_t 7 ((v_t.1 7) + 1))
set_option maxRecDepth 100000 in
set_option maxHeartbeats 4000000 in
theorem c_X11_refusedNow (l : Launch) (G : GG) (o_t : Nat) (a_t : Nat → Nat) {v_t : US}  {res : Int32 × US} (hf : f_X11_refusedNow v_t = some res) : MI l yX11_refusedNow cX11_refusedNow 1 (some .int) 1 [.ref o_t] G [uX11 G o_t a_t v_t] res.1 [uX11 G o_t a_t res.2] := by
  unfold f_X11_refusedNow at hf
  refine MI.intro (by decide) rfl (Nat.le_of_ble_eq_true rfl) (fun p e s m args below meth c A ls C h hl => ?_)
  have C : MC RX11 cX11_refusedNow 1 (some .int) G A p s m args meth c := C
  have hl : lv_has ls 1 [(0, .ref o_t)] := hl
  refine lv_aload_n C.hx C.hb dX11_refusedNow_0 rfl (lv_at hl 0 rfl) ?_
  refine lv_dup C.hx C.hb dX11_refusedNow_1 rfl ?_
  refine g_get C h fl_X11_38 0 0 rfl rfl (v := .int (v_t.1 7)) rfl dX11_refusedNow_2 ?_
  refine lv_iconst (v := 1) C.hx C.hb dX11_refusedNow_5 (by decide) ?_
  refine lv_iadd C.hx C.hb dX11_refusedNow_6 ?_
  refine g_put C h fp_X11_38 0 0 rfl rfl rfl rfl (Nat.le_of_ble_eq_true rfl) dX11_refusedNow_7 (u' := uX11 G o_t a_t (upi v_t 7 ((v_t.1 7) + 1))) (us' := [uX11 G o_t a_t (upi v_t 7 ((v_t.1 7) + 1))]) rfl rfl (fun H locs h => ?_)
  refine lv_bipush (v := (-3)) C.hx C.hb dX11_refusedNow_10 (by decide) ?_
  obtain rfl := Option.some.inj hf
  exact g_ret_i C h rfl rfl dX11_refusedNow_12

def f_X11_drop (v_t : US) (v_t_now : US)  : Option (Int32 × US × US) :=
  if 0 < (v_t_now.1 8) then (some ((v_t_now.1 8) - 1, v_t, upi v_t_now 8 ((v_t_now.1 8) - 1))) else ((f_X11_refusedNow v_t).bind fun zr2 => some (zr2.1, zr2.2, v_t_now))
set_option maxRecDepth 100000 in
set_option maxHeartbeats 4000000 in
theorem c_X11_drop (l : Launch) (G : GG) (o_t : Nat) (a_t a_t_now : Nat → Nat) {v_t : US} {v_t_now : US}  {res : Int32 × US × US} (hf : f_X11_drop v_t v_t_now = some res) : MI l yX11_drop cX11_drop 1 (some .int) 2 [.ref o_t] G [uX11 G o_t a_t v_t, uX9 G (a_t 0) a_t_now v_t_now] res.1 [uX11 G o_t a_t res.2.1, uX9 G (a_t 0) a_t_now res.2.2] := by
  unfold f_X11_drop at hf
  refine MI.intro (by decide) rfl (Nat.le_of_ble_eq_true rfl) (fun p e s m args below meth c A ls C h hl => ?_)
  have C : MC RX11 cX11_drop 1 (some .int) G A p s m args meth c := C
  have hl : lv_has ls 1 [(0, .ref o_t)] := hl
  refine lv_aload_n C.hx C.hb dX11_drop_0 rfl (lv_at hl 0 rfl) ?_
  refine g_get C h fl_X11_12 0 0 rfl rfl (v := .ref (a_t 0)) rfl dX11_drop_1 ?_
  refine g_get C h fl_X11_158 1 0 rfl rfl (v := .int (v_t_now.1 8)) rfl dX11_drop_4 ?_
  refine lv_if_gt (tgt := 15) C.hx C.hb dX11_drop_7 (by decide) (fun zc1 => ?_) (fun zc1 => ?_)
  · replace hf := it_t zc1 hf
    refine lv_aload_n C.hx C.hb dX11_drop_15 rfl (lv_at hl 0 rfl) ?_
    refine g_get C h fl_X11_12 0 0 rfl rfl (v := .ref (a_t 0)) rfl dX11_drop_16 ?_
    refine lv_dup C.hx C.hb dX11_drop_19 rfl ?_
    refine g_get C h fl_X11_158 1 0 rfl rfl (v := .int (v_t_now.1 8)) rfl dX11_drop_20 ?_
    refine lv_iconst (v := 1) C.hx C.hb dX11_drop_23 (by decide) ?_
    refine lv_isub C.hx C.hb dX11_drop_24 ?_
    refine g_put C h fp_X11_158 1 0 rfl rfl rfl rfl (Nat.le_of_ble_eq_true rfl) dX11_drop_25 (u' := uX9 G (a_t 0) a_t_now (upi v_t_now 8 ((v_t_now.1 8) - 1))) (us' := [uX11 G o_t a_t v_t, uX9 G (a_t 0) a_t_now (upi v_t_now 8 ((v_t_now.1 8) - 1))]) rfl rfl (fun H locs h => ?_)
    refine lv_aload_n C.hx C.hb dX11_drop_28 rfl (lv_at hl 0 rfl) ?_
    refine g_get C h fl_X11_12 0 0 rfl rfl (v := .ref (a_t 0)) rfl dX11_drop_29 ?_
    refine g_get C h fl_X11_158 1 0 rfl rfl (v := .int ((v_t_now.1 8) - 1)) rfl dX11_drop_32 ?_
    obtain rfl := Option.some.inj hf
    exact g_ret_i C h rfl rfl dX11_drop_35
  · replace hf := it_f zc1 hf
    refine lv_aload_n C.hx C.hb dX11_drop_10 rfl (lv_at hl 0 rfl) ?_
    obtain ⟨zr2, zq3, hf⟩ := bd_some hf
    have zm4 := c_X11_refusedNow l G o_t a_t (hf := zq3)
    refine g_goI C h zm4.1 (is := [0]) rfl rfl (g_runV C h (is := [0]) rfl rfl (As := []) (rest := []) (zm4.2 _) vf_X11_109 0 0 rfl rfl hl.1 rfl rfl (Nat.le_of_ble_eq_true rfl) dX11_drop_11 ⟨Nat.le_of_ble_eq_true rfl, Nat.le_of_ble_eq_true rfl⟩ ⟨Nat.le_refl _, Nat.le_refl _⟩) (us2 := [uX11 G o_t a_t zr2.2, uX9 G (a_t 0) a_t_now v_t_now]) rfl (fun H locs h => ?_)
    obtain rfl := Option.some.inj hf
    exact g_ret_i C h rfl rfl dX11_drop_14

def f_X11_tooMany (v_t : US)  : Option (Int32 × US) :=
  some ((-4), upi v_t 8 ((v_t.1 8) + 1))
set_option maxRecDepth 100000 in
set_option maxHeartbeats 4000000 in
theorem c_X11_tooMany (l : Launch) (G : GG) (o_t : Nat) (a_t : Nat → Nat) {v_t : US}  {res : Int32 × US} (hf : f_X11_tooMany v_t = some res) : MI l yX11_tooMany cX11_tooMany 1 (some .int) 1 [.ref o_t] G [uX11 G o_t a_t v_t] res.1 [uX11 G o_t a_t res.2] := by
  unfold f_X11_tooMany at hf
  refine MI.intro (by decide) rfl (Nat.le_of_ble_eq_true rfl) (fun p e s m args below meth c A ls C h hl => ?_)
  have C : MC RX11 cX11_tooMany 1 (some .int) G A p s m args meth c := C
  have hl : lv_has ls 1 [(0, .ref o_t)] := hl
  refine lv_aload_n C.hx C.hb dX11_tooMany_0 rfl (lv_at hl 0 rfl) ?_
  refine lv_dup C.hx C.hb dX11_tooMany_1 rfl ?_
  refine g_get C h fl_X11_41 0 0 rfl rfl (v := .int (v_t.1 8)) rfl dX11_tooMany_2 ?_
  refine lv_iconst (v := 1) C.hx C.hb dX11_tooMany_5 (by decide) ?_
  refine lv_iadd C.hx C.hb dX11_tooMany_6 ?_
  refine g_put C h fp_X11_41 0 0 rfl rfl rfl rfl (Nat.le_of_ble_eq_true rfl) dX11_tooMany_7 (u' := uX11 G o_t a_t (upi v_t 8 ((v_t.1 8) + 1))) (us' := [uX11 G o_t a_t (upi v_t 8 ((v_t.1 8) + 1))]) rfl rfl (fun H locs h => ?_)
  refine lv_bipush (v := (-4)) C.hx C.hb dX11_tooMany_10 (by decide) ?_
  obtain rfl := Option.some.inj hf
  exact g_ret_i C h rfl rfl dX11_tooMany_12

def f_X11_errand (v_t : US) (v_t_now : US) (x1 : Int32) (x2 : Int32) : Option (Int32 × US × US) :=
  (f_X11_isPull v_t v_t_now x1 x2).bind fun zr1 => if (b2i zr1) = 0 then ((f_X11_bad v_t (-2)).bind fun zr12 => some (zr12.1, zr12.2, v_t_now)) else (if (v_t_now.1 8) < 5 then ((f_X9_addErrand v_t_now x1 x2).bind fun zr6 => some ((zr6.1 8) - 1, v_t, zr6)) else ((f_X11_tooMany v_t).bind fun zr9 => some (zr9.1, zr9.2, v_t_now)))
set_option maxRecDepth 100000 in
set_option maxHeartbeats 4000000 in
theorem c_X11_errand (l : Launch) (G : GG) (o_t : Nat) (a_t a_t_now : Nat → Nat) {v_t : US} {v_t_now : US} {x1 : Int32} {x2 : Int32} {res : Int32 × US × US} (hf : f_X11_errand v_t v_t_now x1 x2 = some res) : MI l yX11_errand cX11_errand 3 (some .int) 4 [.ref o_t, .int x1, .int x2] G [uX11 G o_t a_t v_t, uX9 G (a_t 0) a_t_now v_t_now] res.1 [uX11 G o_t a_t res.2.1, uX9 G (a_t 0) a_t_now res.2.2] := by
  unfold f_X11_errand at hf
  refine MI.intro (by decide) rfl (Nat.le_of_ble_eq_true rfl) (fun p e s m args below meth c A ls C h hl => ?_)
  have C : MC RX11 cX11_errand 3 (some .int) G A p s m args meth c := C
  have hl : lv_has ls 3 [(0, .ref o_t), (1, .int x1), (2, .int x2)] := hl
  refine lv_aload_n C.hx C.hb dX11_errand_0 rfl (lv_at hl 0 rfl) ?_
  refine lv_iload_n C.hx C.hb dX11_errand_1 rfl (lv_at hl 1 rfl) ?_
  refine lv_iload_n C.hx C.hb dX11_errand_2 rfl (lv_at hl 2 rfl) ?_
  obtain ⟨zr1, zq2, hf⟩ := bd_some hf
  have zm3 := c_X11_isPull l G o_t a_t a_t_now (hf := zq2)
  refine g_goI C h zm3.1 (is := [0, 1]) rfl rfl (g_runV C h (is := [0, 1]) rfl rfl (As := [.int x1, .int x2]) (rest := []) (zm3.2 _) vf_X11_132 0 0 rfl rfl hl.1 rfl rfl (Nat.le_of_ble_eq_true rfl) dX11_errand_3 ⟨Nat.le_of_ble_eq_true rfl, Nat.le_of_ble_eq_true rfl⟩ ⟨Nat.le_refl _, Nat.le_refl _⟩) (us2 := [uX11 G o_t a_t v_t, uX9 G (a_t 0) a_t_now v_t_now]) rfl (fun H locs h => ?_)
  refine lv_if_ne (tgt := 16) C.hx C.hb dX11_errand_6 (by decide) (fun zc4 => ?_) (fun zc4 => ?_)
  · replace hf := it_f zc4 hf
    refine lv_aload_n C.hx C.hb dX11_errand_16 rfl (lv_at hl 0 rfl) ?_
    refine g_get C h fl_X11_12 0 0 rfl rfl (v := .ref (a_t 0)) rfl dX11_errand_17 ?_
    refine g_get C h fl_X11_158 1 0 rfl rfl (v := .int (v_t_now.1 8)) rfl dX11_errand_20 ?_
    refine lv_iconst (v := 5) C.hx C.hb dX11_errand_23 (by decide) ?_
    refine lv_icmp_lt (tgt := 32) C.hx C.hb dX11_errand_24 (by decide) (fun zc5 => ?_) (fun zc5 => ?_)
    · replace hf := it_t zc5 hf
      refine lv_aload_n C.hx C.hb dX11_errand_32 rfl (lv_at hl 0 rfl) ?_
      refine g_get C h fl_X11_12 0 0 rfl rfl (v := .ref (a_t 0)) rfl dX11_errand_33 ?_
      refine lv_iload_n C.hx C.hb dX11_errand_36 rfl (lv_at hl 1 rfl) ?_
      refine lv_iload_n C.hx C.hb dX11_errand_37 rfl (lv_at hl 2 rfl) ?_
      obtain ⟨zr6, zq7, hf⟩ := bd_some hf
      have zm8 := c_X9_addErrand l G (a_t 0) a_t_now (hf := zq7)
      refine g_goV C h zm8.1 (is := [1]) rfl rfl (g_runV C h (is := [1]) rfl rfl (As := [.int x1, .int x2]) (rest := []) (zm8.2 _) vf_X11_161 1 0 rfl rfl hl.1 rfl rfl (Nat.le_of_ble_eq_true rfl) dX11_errand_38 ⟨Nat.le_of_ble_eq_true rfl, Nat.le_of_ble_eq_true rfl⟩ ⟨Nat.le_refl _, Nat.le_refl _⟩) (us2 := [uX11 G o_t a_t v_t, uX9 G (a_t 0) a_t_now zr6]) rfl (fun H locs h => ?_)
      refine lv_aload_n C.hx C.hb dX11_errand_41 rfl (lv_at hl 0 rfl) ?_
      refine g_get C h fl_X11_12 0 0 rfl rfl (v := .ref (a_t 0)) rfl dX11_errand_42 ?_
      refine g_get C h fl_X11_158 1 0 rfl rfl (v := .int (zr6.1 8)) rfl dX11_errand_45 ?_
      refine lv_iconst (v := 1) C.hx C.hb dX11_errand_48 (by decide) ?_
      refine lv_isub C.hx C.hb dX11_errand_49 ?_
      obtain rfl := Option.some.inj hf
      exact g_ret_i C h rfl rfl dX11_errand_50
    · replace hf := it_f zc5 hf
      refine lv_aload_n C.hx C.hb dX11_errand_27 rfl (lv_at hl 0 rfl) ?_
      obtain ⟨zr9, zq10, hf⟩ := bd_some hf
      have zm11 := c_X11_tooMany l G o_t a_t (hf := zq10)
      refine g_goI C h zm11.1 (is := [0]) rfl rfl (g_runV C h (is := [0]) rfl rfl (As := []) (rest := []) (zm11.2 _) vf_X11_90 0 0 rfl rfl hl.1 rfl rfl (Nat.le_of_ble_eq_true rfl) dX11_errand_28 ⟨Nat.le_of_ble_eq_true rfl, Nat.le_of_ble_eq_true rfl⟩ ⟨Nat.le_refl _, Nat.le_refl _⟩) (us2 := [uX11 G o_t a_t zr9.2, uX9 G (a_t 0) a_t_now v_t_now]) rfl (fun H locs h => ?_)
      obtain rfl := Option.some.inj hf
      exact g_ret_i C h rfl rfl dX11_errand_31
  · replace hf := it_t zc4 hf
    refine lv_aload_n C.hx C.hb dX11_errand_9 rfl (lv_at hl 0 rfl) ?_
    refine lv_bipush (v := (-2)) C.hx C.hb dX11_errand_10 (by decide) ?_
    obtain ⟨zr12, zq13, hf⟩ := bd_some hf
    have zm14 := c_X11_bad l G o_t a_t (hf := zq13)
    refine g_goI C h zm14.1 (is := [0]) rfl rfl (g_runV C h (is := [0]) rfl rfl (As := [.int (-2)]) (rest := []) (zm14.2 _) vf_X11_83 0 0 rfl rfl hl.1 rfl rfl (Nat.le_of_ble_eq_true rfl) dX11_errand_12 ⟨Nat.le_of_ble_eq_true rfl, Nat.le_of_ble_eq_true rfl⟩ ⟨Nat.le_refl _, Nat.le_refl _⟩) (us2 := [uX11 G o_t a_t zr12.2, uX9 G (a_t 0) a_t_now v_t_now]) rfl (fun H locs h => ?_)
    obtain rfl := Option.some.inj hf
    exact g_ret_i C h rfl rfl dX11_errand_15

def f_X11_free (v_t : US) (v_t_now : US)  : Option (Int32 × US) :=
  some (v_t_now.1 11, upi v_t_now 11 0)
set_option maxRecDepth 100000 in
set_option maxHeartbeats 4000000 in
theorem c_X11_free (l : Launch) (G : GG) (o_t : Nat) (a_t a_t_now : Nat → Nat) {v_t : US} {v_t_now : US}  {res : Int32 × US} (hf : f_X11_free v_t v_t_now = some res) : MI l yX11_free cX11_free 2 (some .int) 1 [.ref o_t] G [uX11 G o_t a_t v_t, uX9 G (a_t 0) a_t_now v_t_now] res.1 [uX11 G o_t a_t v_t, uX9 G (a_t 0) a_t_now res.2] := by
  unfold f_X11_free at hf
  refine MI.intro (by decide) rfl (Nat.le_of_ble_eq_true rfl) (fun p e s m args below meth c A ls C h hl => ?_)
  have C : MC RX11 cX11_free 2 (some .int) G A p s m args meth c := C
  have hl : lv_has ls 2 [(0, .ref o_t)] := hl
  refine lv_aload_n C.hx C.hb dX11_free_0 rfl (lv_at hl 0 rfl) ?_
  refine g_get C h fl_X11_12 0 0 rfl rfl (v := .ref (a_t 0)) rfl dX11_free_1 ?_
  refine g_get C h fl_X11_207 1 0 rfl rfl (v := .int (v_t_now.1 11)) rfl dX11_free_4 ?_
  refine lv_istore_n (lv' := [(1, .int (v_t_now.1 11)), (0, .ref o_t)]) C.hx C.hb dX11_free_7 rfl hl (by decide) rfl (fun ls hl => ?_)
  refine lv_aload_n C.hx C.hb dX11_free_8 rfl (lv_at hl 1 rfl) ?_
  refine g_get C h fl_X11_12 0 0 rfl rfl (v := .ref (a_t 0)) rfl dX11_free_9 ?_
  refine lv_iconst (v := 0) C.hx C.hb dX11_free_12 (by decide) ?_
  refine g_put C h fp_X11_207 1 0 rfl rfl rfl rfl (Nat.le_of_ble_eq_true rfl) dX11_free_13 (u' := uX9 G (a_t 0) a_t_now (upi v_t_now 11 0)) (us' := [uX11 G o_t a_t v_t, uX9 G (a_t 0) a_t_now (upi v_t_now 11 0)]) rfl rfl (fun H locs h => ?_)
  refine lv_iload_n C.hx C.hb dX11_free_16 rfl (lv_at hl 0 rfl) ?_
  obtain rfl := Option.some.inj hf
  exact g_ret_i C h rfl rfl dX11_free_17

def f_X11_giveUp (N : Nat) (v_t : US) (v_t_now : US) (v_t_search : US)  : Option (Int32 × US) :=
  (f_X6_learn N v_t_search v_t_now).bind fun zr1 => (f_X6_fewestGivenUp N zr1).bind fun zr4 => some (zr4.1, zr4.2)
set_option maxRecDepth 100000 in
set_option maxHeartbeats 4000000 in
theorem c_X11_giveUp (l : Launch) (G : GG) (o_t : Nat) (a_t a_t_now a_t_search a_t_search_kinds : Nat → Nat) (N : Nat) {v_t : US} {v_t_now : US} {v_t_search : US}  {res : Int32 × US} (hf : f_X11_giveUp N v_t v_t_now v_t_search = some res) : MI l yX11_giveUp cX11_giveUp 1 (some .int) 11 [.ref o_t] G [uX11 G o_t a_t v_t, uX9 G (a_t 0) a_t_now v_t_now, uX6 G (a_t 11) a_t_search v_t_search, uX2 G (a_t_search 0) a_t_search_kinds] res.1 [uX11 G o_t a_t v_t, uX9 G (a_t 0) a_t_now v_t_now, uX6 G (a_t 11) a_t_search res.2, uX2 G (a_t_search 0) a_t_search_kinds] := by
  unfold f_X11_giveUp at hf
  refine MI.intro (by decide) rfl (Nat.le_of_ble_eq_true rfl) (fun p e s m args below meth c A ls C h hl => ?_)
  have C : MC RX11 cX11_giveUp 1 (some .int) G A p s m args meth c := C
  have hl : lv_has ls 1 [(0, .ref o_t)] := hl
  refine lv_aload_n C.hx C.hb dX11_giveUp_0 rfl (lv_at hl 0 rfl) ?_
  refine g_get C h fl_X11_68 0 0 rfl rfl (v := .ref (a_t 11)) rfl dX11_giveUp_1 ?_
  refine lv_aload_n C.hx C.hb dX11_giveUp_4 rfl (lv_at hl 0 rfl) ?_
  refine g_get C h fl_X11_12 0 0 rfl rfl (v := .ref (a_t 0)) rfl dX11_giveUp_5 ?_
  obtain ⟨zr1, zq2, hf⟩ := bd_some hf
  have zm3 := c_X6_learn l G (a_t 11) (a_t 0) a_t_now a_t_search a_t_search_kinds N (hf := zq2)
  refine g_goV C h zm3.1 (is := [2, 1, 3]) rfl rfl (g_runV C h (is := [2, 1, 3]) rfl rfl (As := [.ref (a_t 0)]) (rest := []) (zm3.2 _) vf_X11_214 2 0 rfl rfl hl.1 rfl rfl (Nat.le_of_ble_eq_true rfl) dX11_giveUp_8 ⟨Nat.le_of_ble_eq_true rfl, Nat.le_of_ble_eq_true rfl⟩ ⟨Nat.le_refl _, Nat.le_refl _⟩) (us2 := [uX11 G o_t a_t v_t, uX9 G (a_t 0) a_t_now v_t_now, uX6 G (a_t 11) a_t_search zr1, uX2 G (a_t_search 0) a_t_search_kinds]) rfl (fun H locs h => ?_)
  refine lv_aload_n C.hx C.hb dX11_giveUp_11 rfl (lv_at hl 0 rfl) ?_
  refine g_get C h fl_X11_68 0 0 rfl rfl (v := .ref (a_t 11)) rfl dX11_giveUp_12 ?_
  obtain ⟨zr4, zq5, hf⟩ := bd_some hf
  have zm6 := c_X6_fewestGivenUp l G (a_t 11) a_t_search N (hf := zq5)
  refine g_goI C h zm6.1 (is := [2]) rfl rfl (g_runV C h (is := [2]) rfl rfl (As := []) (rest := []) (zm6.2 _) vf_X11_223 2 0 rfl rfl hl.1 rfl rfl (Nat.le_of_ble_eq_true rfl) dX11_giveUp_15 ⟨Nat.le_of_ble_eq_true rfl, Nat.le_of_ble_eq_true rfl⟩ ⟨Nat.le_refl _, Nat.le_refl _⟩) (us2 := [uX11 G o_t a_t v_t, uX9 G (a_t 0) a_t_now v_t_now, uX6 G (a_t 11) a_t_search zr4.2, uX2 G (a_t_search 0) a_t_search_kinds]) rfl (fun H locs h => ?_)
  obtain rfl := Option.some.inj hf
  exact g_ret_i C h rfl rfl dX11_giveUp_18

def f_X11_heard (N : Nat) (v_t : US) (v_t_day : US) (v_t_day_swing : US) (v_t_now : US) (x1 : Int32) : Option (Int32 × US × US × US) :=
  if 0 ≤ x1 then ((f_X0_look N v_t_day v_t_now v_t_day_swing (v_t_now.1 5)).bind fun zr2 => (f_X0_thatRing N zr2.1 x1).bind fun zr5 => some (zr5, v_t, zr2.1, zr2.2)) else ((f_X11_bad v_t (-2)).bind fun zr8 => some (zr8.1, zr8.2, v_t_day, v_t_day_swing))
set_option maxRecDepth 100000 in
set_option maxHeartbeats 4000000 in
theorem c_X11_heard (l : Launch) (G : GG) (o_t : Nat) (a_t a_t_day a_t_day_swing a_t_day_swing_kinds a_t_now : Nat → Nat) (N : Nat) {v_t : US} {v_t_day : US} {v_t_day_swing : US} {v_t_now : US} {x1 : Int32} {res : Int32 × US × US × US} (hf : f_X11_heard N v_t v_t_day v_t_day_swing v_t_now x1 = some res) : MI l yX11_heard cX11_heard 2 (some .int) 6 [.ref o_t, .int x1] G [uX11 G o_t a_t v_t, uX0 G (a_t 10) a_t_day v_t_day, uX8 G (a_t_day 0) a_t_day_swing v_t_day_swing, uX2 G (a_t_day_swing 0) a_t_day_swing_kinds, uX9 G (a_t 0) a_t_now v_t_now] res.1 [uX11 G o_t a_t res.2.1, uX0 G (a_t 10) a_t_day res.2.2.1, uX8 G (a_t_day 0) a_t_day_swing res.2.2.2, uX2 G (a_t_day_swing 0) a_t_day_swing_kinds, uX9 G (a_t 0) a_t_now v_t_now] := by
  unfold f_X11_heard at hf
  refine MI.intro (by decide) rfl (Nat.le_of_ble_eq_true rfl) (fun p e s m args below meth c A ls C h hl => ?_)
  have C : MC RX11 cX11_heard 2 (some .int) G A p s m args meth c := C
  have hl : lv_has ls 2 [(0, .ref o_t), (1, .int x1)] := hl
  refine lv_iload_n C.hx C.hb dX11_heard_0 rfl (lv_at hl 1 rfl) ?_
  refine lv_if_ge (tgt := 11) C.hx C.hb dX11_heard_1 (by decide) (fun zc1 => ?_) (fun zc1 => ?_)
  · replace hf := it_t zc1 hf
    refine lv_aload_n C.hx C.hb dX11_heard_11 rfl (lv_at hl 0 rfl) ?_
    refine g_get C h fl_X11_61 0 0 rfl rfl (v := .ref (a_t 10)) rfl dX11_heard_12 ?_
    refine lv_aload_n C.hx C.hb dX11_heard_15 rfl (lv_at hl 0 rfl) ?_
    refine g_get C h fl_X11_12 0 0 rfl rfl (v := .ref (a_t 0)) rfl dX11_heard_16 ?_
    refine lv_aload_n C.hx C.hb dX11_heard_19 rfl (lv_at hl 0 rfl) ?_
    refine g_get C h fl_X11_12 0 0 rfl rfl (v := .ref (a_t 0)) rfl dX11_heard_20 ?_
    refine g_get C h fl_X11_102 4 0 rfl rfl (v := .int (v_t_now.1 5)) rfl dX11_heard_23 ?_
    obtain ⟨zr2, zq3, hf⟩ := bd_some hf
    have zm4 := c_X0_look l G (a_t 10) (a_t 0) a_t_now a_t_day a_t_day_swing a_t_day_swing_kinds N (hf := zq3)
    refine g_goV C h zm4.1 (is := [1, 4, 2, 3]) rfl rfl (g_runV C h (is := [1, 4, 2, 3]) rfl rfl (As := [.ref (a_t 0), .int (v_t_now.1 5)]) (rest := []) (zm4.2 _) vf_X11_196 1 0 rfl rfl hl.1 rfl rfl (Nat.le_of_ble_eq_true rfl) dX11_heard_26 ⟨Nat.le_of_ble_eq_true rfl, Nat.le_of_ble_eq_true rfl⟩ ⟨Nat.le_refl _, Nat.le_refl _⟩) (us2 := [uX11 G o_t a_t v_t, uX0 G (a_t 10) a_t_day zr2.1, uX8 G (a_t_day 0) a_t_day_swing zr2.2, uX2 G (a_t_day_swing 0) a_t_day_swing_kinds, uX9 G (a_t 0) a_t_now v_t_now]) rfl (fun H locs h => ?_)
    refine lv_aload_n C.hx C.hb dX11_heard_29 rfl (lv_at hl 0 rfl) ?_
    refine g_get C h fl_X11_61 0 0 rfl rfl (v := .ref (a_t 10)) rfl dX11_heard_30 ?_
    refine lv_iload_n C.hx C.hb dX11_heard_33 rfl (lv_at hl 1 rfl) ?_
    obtain ⟨zr5, zq6, hf⟩ := bd_some hf
    have zm7 := c_X0_thatRing l G (a_t 10) a_t_day N (hf := zq6)
    refine g_goI C h zm7.1 (is := [1]) rfl rfl (g_runV C h (is := [1]) rfl rfl (As := [.int x1]) (rest := []) (zm7.2 _) vf_X11_200 1 0 rfl rfl hl.1 rfl rfl (Nat.le_of_ble_eq_true rfl) dX11_heard_34 ⟨Nat.le_of_ble_eq_true rfl, Nat.le_of_ble_eq_true rfl⟩ ⟨Nat.le_refl _, Nat.le_refl _⟩) (us2 := [uX11 G o_t a_t v_t, uX0 G (a_t 10) a_t_day zr2.1, uX8 G (a_t_day 0) a_t_day_swing zr2.2, uX2 G (a_t_day_swing 0) a_t_day_swing_kinds, uX9 G (a_t 0) a_t_now v_t_now]) rfl (fun H locs h => ?_)
    obtain rfl := Option.some.inj hf
    exact g_ret_i C h rfl rfl dX11_heard_37
  · replace hf := it_f zc1 hf
    refine lv_aload_n C.hx C.hb dX11_heard_4 rfl (lv_at hl 0 rfl) ?_
    refine lv_bipush (v := (-2)) C.hx C.hb dX11_heard_5 (by decide) ?_
    obtain ⟨zr8, zq9, hf⟩ := bd_some hf
    have zm10 := c_X11_bad l G o_t a_t (hf := zq9)
    refine g_goI C h zm10.1 (is := [0]) rfl rfl (g_runV C h (is := [0]) rfl rfl (As := [.int (-2)]) (rest := []) (zm10.2 _) vf_X11_83 0 0 rfl rfl hl.1 rfl rfl (Nat.le_of_ble_eq_true rfl) dX11_heard_7 ⟨Nat.le_of_ble_eq_true rfl, Nat.le_of_ble_eq_true rfl⟩ ⟨Nat.le_refl _, Nat.le_refl _⟩) (us2 := [uX11 G o_t a_t zr8.2, uX0 G (a_t 10) a_t_day v_t_day, uX8 G (a_t_day 0) a_t_day_swing v_t_day_swing, uX2 G (a_t_day_swing 0) a_t_day_swing_kinds, uX9 G (a_t 0) a_t_now v_t_now]) rfl (fun H locs h => ?_)
    obtain rfl := Option.some.inj hf
    exact g_ret_i C h rfl rfl dX11_heard_10

def b_X11_keepFraction_42 (N : Nat)  (v_t : US) (y1 : Int32) (y2 : Int32) (y3 : Int32) : Option (US) :=
  if y3 = 0 then (some (v_t)) else (if y3 = 0 then none else (if y3 = 0 then none else (bnd (upl v_t 4 ((y1 / y3).toInt64)) fun zw4 => some (upl zw4 5 ((y2 / y3).toInt64)))))
def b_X11_keepFraction_11 (N : Nat) (g11 : US → Int32 → Int32 → Int32 → Int32 → Int32 → Option (US)) (v_t : US) (y1 : Int32) (y2 : Int32) (y3 : Int32) (y4 : Int32) (y5 : Int32) : Option (US) :=
  if 64 ≤ y5 then (b_X11_keepFraction_42 N v_t y1 y2 y3) else (if y4 = 0 then (b_X11_keepFraction_42 N v_t y1 y2 y3) else (if y4 = 0 then none else (g11 v_t y1 y2 y4 (y3 - y3 / y4 * y4) (y5 + 1))))
def f_X11_keepFraction_11 (N : Nat)  : Nat → US → Int32 → Int32 → Int32 → Int32 → Int32 → Option (US)
  | 0 => fun _ _ _ _ _ _ => none
  | k + 1 => fun q0 q1 q2 q3 q4 q5 => b_X11_keepFraction_11 N  (f_X11_keepFraction_11 N  k) q0 q1 q2 q3 q4 q5
def f_X11_keepFraction (N : Nat) (v_t : US) (x1 : Int32) (x2 : Int32) : Option (US) :=
  f_X11_keepFraction_11 N N v_t x1 x2 (if 0 ≤ x1 then x1 else 0 - x1) x2 0
set_option maxRecDepth 100000 in
set_option maxHeartbeats 4000000 in
theorem w_X11_keepFraction_42 {p : Program} {l : Launch} {e : Env} {s : State} {m : MethodId} {args : Array Value} {below : List Frame} {meth : Method} {c : Code} {G : GG} {A : Nat → Prop} {o_t : Nat} {a_t : Nat → Nat} {N : Nat}  {v_t : US} {y1 : Int32} {y2 : Int32} {y3 : Int32} {res : US} (C : MC RX11 cX11_keepFraction 7 none G A p s m args meth c)  (hf : b_X11_keepFraction_42 N v_t y1 y2 y3 = some res) {H : Heap} {locs : List Loc} {ls : Array Slot} (h : HP G A s [uX11 G o_t a_t v_t] H locs) (hl : lv_has ls 7 [(0, .ref o_t), (1, .int y1), (2, .int y2), (3, .int y3)]) : W p l e (rmm 1) s m args below meth c H locs 0 0 (QV below G A args s  [uX11 G o_t a_t res]) (F0 m 42 ls []) := by
  unfold b_X11_keepFraction_42 at hf
  refine lv_iload_n C.hx C.hb dX11_keepFraction_42 rfl (lv_at hl 3 rfl) ?_
  refine lv_if_ne (tgt := 47) C.hx C.hb dX11_keepFraction_43 (by decide) (fun zc1 => ?_) (fun zc1 => ?_)
  · replace hf := it_f zc1 hf
    refine lv_aload_n C.hx C.hb dX11_keepFraction_47 rfl (lv_at hl 0 rfl) ?_
    refine lv_iload_n C.hx C.hb dX11_keepFraction_48 rfl (lv_at hl 1 rfl) ?_
    refine lv_iload_n C.hx C.hb dX11_keepFraction_49 rfl (lv_at hl 3 rfl) ?_
    obtain ⟨zz2, hf⟩ := nz_some hf
    refine lv_idiv C.hx C.hb dX11_keepFraction_50 zz2 ?_
    refine lv_i2l C.hx C.hb dX11_keepFraction_51 rfl ?_
    refine g_put C h fp_X11_28 0 0 rfl rfl rfl rfl (Nat.le_of_ble_eq_true rfl) dX11_keepFraction_52 (u' := uX11 G o_t a_t (upl v_t 4 ((y1 / y3).toInt64))) (us' := [uX11 G o_t a_t (upl v_t 4 ((y1 / y3).toInt64))]) rfl rfl (fun H locs h => ?_)
    refine lv_aload_n C.hx C.hb dX11_keepFraction_55 rfl (lv_at hl 0 rfl) ?_
    refine lv_iload_n C.hx C.hb dX11_keepFraction_56 rfl (lv_at hl 2 rfl) ?_
    refine lv_iload_n C.hx C.hb dX11_keepFraction_57 rfl (lv_at hl 3 rfl) ?_
    obtain ⟨zz3, hf⟩ := nz_some hf
    refine lv_idiv C.hx C.hb dX11_keepFraction_58 zz3 ?_
    refine lv_i2l C.hx C.hb dX11_keepFraction_59 rfl ?_
    obtain ⟨zw4, hzw4, hf⟩ := bnd_some hf
    rw [← hzw4] at h
    refine g_put C h fp_X11_32 0 0 rfl rfl rfl rfl (Nat.le_of_ble_eq_true rfl) dX11_keepFraction_60 (u' := uX11 G o_t a_t (upl zw4 5 ((y2 / y3).toInt64))) (us' := [uX11 G o_t a_t (upl zw4 5 ((y2 / y3).toInt64))]) rfl rfl (fun H locs h => ?_)
    obtain rfl := Option.some.inj hf
    exact g_ret_v C h rfl dX11_keepFraction_63
  · replace hf := it_t zc1 hf
    obtain rfl := Option.some.inj hf
    exact g_ret_v C h rfl dX11_keepFraction_46
set_option maxRecDepth 100000 in
set_option maxHeartbeats 4000000 in
theorem w_X11_keepFraction_11 {p : Program} {l : Launch} {e : Env} {s : State} {m : MethodId} {args : Array Value} {below : List Frame} {meth : Method} {c : Code} {G : GG} {A : Nat → Prop} {o_t : Nat} {a_t : Nat → Nat} {N : Nat} {g11 : US → Int32 → Int32 → Int32 → Int32 → Int32 → Option (US)} {v_t : US} {y1 : Int32} {y2 : Int32} {y3 : Int32} {y4 : Int32} {y5 : Int32} {res : US} (C : MC RX11 cX11_keepFraction 7 none G A p s m args meth c) (hg11 : ∀ {v_t : US} {y1 : Int32} {y2 : Int32} {y3 : Int32} {y4 : Int32} {y5 : Int32}, g11 v_t y1 y2 y3 y4 y5 = some res → ∀ {H : Heap} {locs : List Loc} {ls : Array Slot}, HP G A s [uX11 G o_t a_t v_t] H locs → lv_has ls 7 [(0, .ref o_t), (1, .int y1), (2, .int y2), (3, .int y3), (4, .int y4), (5, .int y5)] → W p l e (rmm 1) s m args below meth c H locs 0 0 (QV below G A args s  [uX11 G o_t a_t res]) (F0 m 11 ls [])) (hf : b_X11_keepFraction_11 N g11 v_t y1 y2 y3 y4 y5 = some res) {H : Heap} {locs : List Loc} {ls : Array Slot} (h : HP G A s [uX11 G o_t a_t v_t] H locs) (hl : lv_has ls 7 [(0, .ref o_t), (1, .int y1), (2, .int y2), (3, .int y3), (4, .int y4), (5, .int y5)]) : W p l e (rmm 1) s m args below meth c H locs 0 0 (QV below G A args s  [uX11 G o_t a_t res]) (F0 m 11 ls []) := by
  unfold b_X11_keepFraction_11 at hf
  refine lv_iload C.hx C.hb dX11_keepFraction_11 (lv_at hl 5 rfl) ?_
  refine lv_bipush (v := 64) C.hx C.hb dX11_keepFraction_13 (by decide) ?_
  refine lv_icmp_ge (tgt := 42) C.hx C.hb dX11_keepFraction_15 (by decide) (fun zc1 => ?_) (fun zc1 => ?_)
  · replace hf := it_t zc1 hf
    exact w_X11_keepFraction_42 C  hf h (lv_sub hl [0, 1, 2, 3] rfl)
  · replace hf := it_f zc1 hf
    refine lv_iload C.hx C.hb dX11_keepFraction_18 (lv_at hl 4 rfl) ?_
    refine lv_if_eq (tgt := 42) C.hx C.hb dX11_keepFraction_20 (by decide) (fun zc2 => ?_) (fun zc2 => ?_)
    · replace hf := it_t zc2 hf
      exact w_X11_keepFraction_42 C  hf h (lv_sub hl [0, 1, 2, 3] rfl)
    · replace hf := it_f zc2 hf
      refine lv_iload_n C.hx C.hb dX11_keepFraction_23 rfl (lv_at hl 3 rfl) ?_
      refine lv_iload C.hx C.hb dX11_keepFraction_24 (lv_at hl 4 rfl) ?_
      obtain ⟨zz3, hf⟩ := nz_some hf
      refine lv_irem C.hx C.hb dX11_keepFraction_26 zz3 ?_
      refine lv_istore (lv' := [(6, .int (y3 - y3 / y4 * y4)), (0, .ref o_t), (1, .int y1), (2, .int y2), (3, .int y3), (4, .int y4), (5, .int y5)]) C.hx C.hb dX11_keepFraction_27 hl (by decide) rfl (fun ls hl => ?_)
      refine lv_iload C.hx C.hb dX11_keepFraction_29 (lv_at hl 5 rfl) ?_
      refine lv_istore_n (lv' := [(3, .int y4), (6, .int (y3 - y3 / y4 * y4)), (0, .ref o_t), (1, .int y1), (2, .int y2), (4, .int y4), (5, .int y5)]) C.hx C.hb dX11_keepFraction_31 rfl hl (by decide) rfl (fun ls hl => ?_)
      refine lv_iload C.hx C.hb dX11_keepFraction_32 (lv_at hl 1 rfl) ?_
      refine lv_istore (lv' := [(4, .int (y3 - y3 / y4 * y4)), (3, .int y4), (6, .int (y3 - y3 / y4 * y4)), (0, .ref o_t), (1, .int y1), (2, .int y2), (5, .int y5)]) C.hx C.hb dX11_keepFraction_34 hl (by decide) rfl (fun ls hl => ?_)
      refine lv_iinc (v := y5 + 1) (lv' := [(5, .int (y5 + 1)), (4, .int (y3 - y3 / y4 * y4)), (3, .int y4), (6, .int (y3 - y3 / y4 * y4)), (0, .ref o_t), (1, .int y1), (2, .int y2)]) C.hx C.hb dX11_keepFraction_36 hl (k := 6) rfl rfl (by decide) rfl (fun ls hl => ?_)
      refine lv_goto (tgt := 11) C.hx C.hb dX11_keepFraction_39 (by decide) ?_
      exact hg11 hf h (lv_sub hl [4, 5, 6, 2, 1, 0] rfl)
set_option maxRecDepth 100000 in
set_option maxHeartbeats 4000000 in
theorem l_X11_keepFraction_11 {p : Program} {l : Launch} {e : Env} {s : State} {m : MethodId} {args : Array Value} {below : List Frame} {meth : Method} {c : Code} {G : GG} {A : Nat → Prop} {o_t : Nat} {a_t : Nat → Nat} {N : Nat}  {res : US} (C : MC RX11 cX11_keepFraction 7 none G A p s m args meth c)  : ∀ (k : Nat) {v_t : US} {y1 : Int32} {y2 : Int32} {y3 : Int32} {y4 : Int32} {y5 : Int32}, f_X11_keepFraction_11 N k v_t y1 y2 y3 y4 y5 = some res → ∀ {H : Heap} {locs : List Loc} {ls : Array Slot}, HP G A s [uX11 G o_t a_t v_t] H locs → lv_has ls 7 [(0, .ref o_t), (1, .int y1), (2, .int y2), (3, .int y3), (4, .int y4), (5, .int y5)] → W p l e (rmm 1) s m args below meth c H locs 0 0 (QV below G A args s  [uX11 G o_t a_t res]) (F0 m 11 ls []) := by
  intro k
  induction k with
  | zero => intros; contradiction
  | succ k ih =>
    intro v_t y1 y2 y3 y4 y5 hf H locs ls h hl
    exact w_X11_keepFraction_11 (N := N) C ih hf h hl
set_option maxRecDepth 100000 in
set_option maxHeartbeats 4000000 in
theorem c_X11_keepFraction (l : Launch) (G : GG) (o_t : Nat) (a_t : Nat → Nat) (N : Nat) {v_t : US} {x1 : Int32} {x2 : Int32} {res : US} (hf : f_X11_keepFraction N v_t x1 x2 = some res) : MV l yX11_keepFraction cX11_keepFraction 7 none 1 [.ref o_t, .int x1, .int x2] G [uX11 G o_t a_t v_t]  [uX11 G o_t a_t res] := by
  unfold f_X11_keepFraction at hf
  refine MV.intro (by decide) rfl (Nat.le_of_ble_eq_true rfl) (fun p e s m args below meth c A ls C h hl => ?_)
  have C : MC RX11 cX11_keepFraction 7 none G A p s m args meth c := C
  have hl : lv_has ls 7 [(0, .ref o_t), (1, .int x1), (2, .int x2)] := hl
  refine lv_iload_n C.hx C.hb dX11_keepFraction_0 rfl (lv_at hl 1 rfl) ?_
  refine g_abs C hl.1 ml_X11_263 ms_abs mi_math mc_abs (Nat.le_of_ble_eq_true rfl) (Nat.le_of_ble_eq_true rfl) ⟨Nat.le_refl _, Nat.le_refl _⟩ dX11_keepFraction_1 (v := if 0 ≤ x1 then x1 else 0 - x1) rfl ?_
  refine lv_istore_n (lv' := [(3, .int (if 0 ≤ x1 then x1 else 0 - x1)), (0, .ref o_t), (1, .int x1), (2, .int x2)]) C.hx C.hb dX11_keepFraction_4 rfl hl (by decide) rfl (fun ls hl => ?_)
  refine lv_iload_n C.hx C.hb dX11_keepFraction_5 rfl (lv_at hl 3 rfl) ?_
  refine lv_istore (lv' := [(4, .int x2), (3, .int (if 0 ≤ x1 then x1 else 0 - x1)), (0, .ref o_t), (1, .int x1), (2, .int x2)]) C.hx C.hb dX11_keepFraction_6 hl (by decide) rfl (fun ls hl => ?_)
  refine lv_iconst (v := 0) C.hx C.hb dX11_keepFraction_8 (by decide) ?_
  refine lv_istore (lv' := [(5, .int 0), (4, .int x2), (3, .int (if 0 ≤ x1 then x1 else 0 - x1)), (0, .ref o_t), (1, .int x1), (2, .int x2)]) C.hx C.hb dX11_keepFraction_9 hl (by decide) rfl (fun ls hl => ?_)
  exact l_X11_keepFraction_11 C N hf h (lv_sub hl [3, 4, 5, 2, 1, 0] rfl)

def b_X11_moves_20 (N : Nat)  (v_t : US) (v_t_now : US) (v_t_swing : US)  : Option (Int32 × US × US) :=
  (f_X11_bad v_t (-2)).bind fun zr1 => some (zr1.1, zr1.2, v_t_swing)
def f_X11_moves (N : Nat) (v_t : US) (v_t_now : US) (v_t_swing : US) (x1 : Int32) (x2 : Int32) (x3 : Int32) : Option (Int32 × US × US) :=
  (f_X11_isPull v_t v_t_now x1 x2).bind fun zr1 => if (b2i zr1) = 0 then (b_X11_moves_20 N v_t v_t_now v_t_swing) else ((f_X9_hasThing v_t_now x3).bind fun zr5 => if (b2i zr5) = 0 then (b_X11_moves_20 N v_t v_t_now v_t_swing) else ((f_X8_by N v_t_swing v_t_now (v_t_now.1 5) x1 x2 (-1) 0).bind fun zr9 => (f_X8_moveOf zr9 v_t_now (v_t_now.1 5) x3).bind fun zr12 => some (zr12, v_t, zr9)))
set_option maxRecDepth 100000 in
set_option maxHeartbeats 4000000 in
theorem w_X11_moves_20 {p : Program} {l : Launch} {e : Env} {s : State} {m : MethodId} {args : Array Value} {below : List Frame} {meth : Method} {c : Code} {G : GG} {A : Nat → Prop} {o_t : Nat} {a_t a_t_now a_t_swing a_t_swing_kinds : Nat → Nat} {N : Nat}  {v_t : US} {v_t_now : US} {v_t_swing : US}  {res : Int32 × US × US} (C : MC RX11 cX11_moves 4 (some .int) G A p s m args meth c)  (hf : b_X11_moves_20 N v_t v_t_now v_t_swing = some res) {H : Heap} {locs : List Loc} {ls : Array Slot} (h : HP G A s [uX11 G o_t a_t v_t, uX9 G (a_t 0) a_t_now v_t_now, uX8 G (a_t 9) a_t_swing v_t_swing, uX2 G (a_t_swing 0) a_t_swing_kinds] H locs) (hl : lv_has ls 4 [(0, .ref o_t)]) : W p l e (rmm 5) s m args below meth c H locs 0 0 (QI below G A args s res.1 [uX11 G o_t a_t res.2.1, uX9 G (a_t 0) a_t_now v_t_now, uX8 G (a_t 9) a_t_swing res.2.2, uX2 G (a_t_swing 0) a_t_swing_kinds]) (F0 m 20 ls []) := by
  unfold b_X11_moves_20 at hf
  refine lv_aload_n C.hx C.hb dX11_moves_20 rfl (lv_at hl 0 rfl) ?_
  refine lv_bipush (v := (-2)) C.hx C.hb dX11_moves_21 (by decide) ?_
  obtain ⟨zr1, zq2, hf⟩ := bd_some hf
  have zm3 := c_X11_bad l G o_t a_t (hf := zq2)
  refine g_goI C h zm3.1 (is := [0]) rfl rfl (g_runV C h (is := [0]) rfl rfl (As := [.int (-2)]) (rest := []) (zm3.2 _) vf_X11_83 0 0 rfl rfl hl.1 rfl rfl (Nat.le_of_ble_eq_true rfl) dX11_moves_23 ⟨Nat.le_of_ble_eq_true rfl, Nat.le_of_ble_eq_true rfl⟩ ⟨Nat.le_refl _, Nat.le_refl _⟩) (us2 := [uX11 G o_t a_t zr1.2, uX9 G (a_t 0) a_t_now v_t_now, uX8 G (a_t 9) a_t_swing v_t_swing, uX2 G (a_t_swing 0) a_t_swing_kinds]) rfl (fun H locs h => ?_)
  obtain rfl := Option.some.inj hf
  exact g_ret_i C h rfl rfl dX11_moves_26
set_option maxRecDepth 100000 in
set_option maxHeartbeats 4000000 in
theorem c_X11_moves (l : Launch) (G : GG) (o_t : Nat) (a_t a_t_now a_t_swing a_t_swing_kinds : Nat → Nat) (N : Nat) {v_t : US} {v_t_now : US} {v_t_swing : US} {x1 : Int32} {x2 : Int32} {x3 : Int32} {res : Int32 × US × US} (hf : f_X11_moves N v_t v_t_now v_t_swing x1 x2 x3 = some res) : MI l yX11_moves cX11_moves 4 (some .int) 5 [.ref o_t, .int x1, .int x2, .int x3] G [uX11 G o_t a_t v_t, uX9 G (a_t 0) a_t_now v_t_now, uX8 G (a_t 9) a_t_swing v_t_swing, uX2 G (a_t_swing 0) a_t_swing_kinds] res.1 [uX11 G o_t a_t res.2.1, uX9 G (a_t 0) a_t_now v_t_now, uX8 G (a_t 9) a_t_swing res.2.2, uX2 G (a_t_swing 0) a_t_swing_kinds] := by
  unfold f_X11_moves at hf
  refine MI.intro (by decide) rfl (Nat.le_of_ble_eq_true rfl) (fun p e s m args below meth c A ls C h hl => ?_)
  have C : MC RX11 cX11_moves 4 (some .int) G A p s m args meth c := C
  have hl : lv_has ls 4 [(0, .ref o_t), (1, .int x1), (2, .int x2), (3, .int x3)] := hl
  refine lv_aload_n C.hx C.hb dX11_moves_0 rfl (lv_at hl 0 rfl) ?_
  refine lv_iload_n C.hx C.hb dX11_moves_1 rfl (lv_at hl 1 rfl) ?_
  refine lv_iload_n C.hx C.hb dX11_moves_2 rfl (lv_at hl 2 rfl) ?_
  obtain ⟨zr1, zq2, hf⟩ := bd_some hf
  have zm3 := c_X11_isPull l G o_t a_t a_t_now (hf := zq2)
  refine g_goI C h zm3.1 (is := [0, 1]) rfl rfl (g_runV C h (is := [0, 1]) rfl rfl (As := [.int x1, .int x2]) (rest := []) (zm3.2 _) vf_X11_132 0 0 rfl rfl hl.1 rfl rfl (Nat.le_of_ble_eq_true rfl) dX11_moves_3 ⟨Nat.le_of_ble_eq_true rfl, Nat.le_of_ble_eq_true rfl⟩ ⟨Nat.le_refl _, Nat.le_refl _⟩) (us2 := [uX11 G o_t a_t v_t, uX9 G (a_t 0) a_t_now v_t_now, uX8 G (a_t 9) a_t_swing v_t_swing, uX2 G (a_t_swing 0) a_t_swing_kinds]) rfl (fun H locs h => ?_)
  refine lv_if_eq (tgt := 20) C.hx C.hb dX11_moves_6 (by decide) (fun zc4 => ?_) (fun zc4 => ?_)
  · replace hf := it_t zc4 hf
    exact w_X11_moves_20 C  hf h (lv_sub hl [0] rfl)
  · replace hf := it_f zc4 hf
    refine lv_aload_n C.hx C.hb dX11_moves_9 rfl (lv_at hl 0 rfl) ?_
    refine g_get C h fl_X11_12 0 0 rfl rfl (v := .ref (a_t 0)) rfl dX11_moves_10 ?_
    refine lv_iload_n C.hx C.hb dX11_moves_13 rfl (lv_at hl 3 rfl) ?_
    obtain ⟨zr5, zq6, hf⟩ := bd_some hf
    have zm7 := c_X9_hasThing l G (a_t 0) a_t_now (hf := zq6)
    refine g_goI C h zm7.1 (is := [1]) rfl rfl (g_runV C h (is := [1]) rfl rfl (As := [.int x3]) (rest := []) (zm7.2 _) vf_X11_98 1 0 rfl rfl hl.1 rfl rfl (Nat.le_of_ble_eq_true rfl) dX11_moves_14 ⟨Nat.le_of_ble_eq_true rfl, Nat.le_of_ble_eq_true rfl⟩ ⟨Nat.le_refl _, Nat.le_refl _⟩) (us2 := [uX11 G o_t a_t v_t, uX9 G (a_t 0) a_t_now v_t_now, uX8 G (a_t 9) a_t_swing v_t_swing, uX2 G (a_t_swing 0) a_t_swing_kinds]) rfl (fun H locs h => ?_)
    refine lv_if_ne (tgt := 27) C.hx C.hb dX11_moves_17 (by decide) (fun zc8 => ?_) (fun zc8 => ?_)
    · replace hf := it_f zc8 hf
      refine lv_aload_n C.hx C.hb dX11_moves_27 rfl (lv_at hl 0 rfl) ?_
      refine g_get C h fl_X11_52 0 0 rfl rfl (v := .ref (a_t 9)) rfl dX11_moves_28 ?_
      refine lv_aload_n C.hx C.hb dX11_moves_31 rfl (lv_at hl 0 rfl) ?_
      refine g_get C h fl_X11_12 0 0 rfl rfl (v := .ref (a_t 0)) rfl dX11_moves_32 ?_
      refine lv_aload_n C.hx C.hb dX11_moves_35 rfl (lv_at hl 0 rfl) ?_
      refine g_get C h fl_X11_12 0 0 rfl rfl (v := .ref (a_t 0)) rfl dX11_moves_36 ?_
      refine g_get C h fl_X11_102 1 0 rfl rfl (v := .int (v_t_now.1 5)) rfl dX11_moves_39 ?_
      refine lv_iload_n C.hx C.hb dX11_moves_42 rfl (lv_at hl 1 rfl) ?_
      refine lv_iload_n C.hx C.hb dX11_moves_43 rfl (lv_at hl 2 rfl) ?_
      refine lv_iconst (v := (-1)) C.hx C.hb dX11_moves_44 (by decide) ?_
      refine lv_iconst (v := 0) C.hx C.hb dX11_moves_45 (by decide) ?_
      obtain ⟨zr9, zq10, hf⟩ := bd_some hf
      have zm11 := c_X8_by l G (a_t 9) (a_t 0) a_t_now a_t_swing a_t_swing_kinds N (hf := zq10)
      refine g_goV C h zm11.1 (is := [2, 1, 3]) rfl rfl (g_runV C h (is := [2, 1, 3]) rfl rfl (As := [.ref (a_t 0), .int (v_t_now.1 5), .int x1, .int x2, .int (-1), .int 0]) (rest := []) (zm11.2 _) vf_X11_135 2 0 rfl rfl hl.1 rfl rfl (Nat.le_of_ble_eq_true rfl) dX11_moves_46 ⟨Nat.le_of_ble_eq_true rfl, Nat.le_of_ble_eq_true rfl⟩ ⟨Nat.le_refl _, Nat.le_refl _⟩) (us2 := [uX11 G o_t a_t v_t, uX9 G (a_t 0) a_t_now v_t_now, uX8 G (a_t 9) a_t_swing zr9, uX2 G (a_t_swing 0) a_t_swing_kinds]) rfl (fun H locs h => ?_)
      refine lv_aload_n C.hx C.hb dX11_moves_49 rfl (lv_at hl 0 rfl) ?_
      refine g_get C h fl_X11_52 0 0 rfl rfl (v := .ref (a_t 9)) rfl dX11_moves_50 ?_
      refine lv_aload_n C.hx C.hb dX11_moves_53 rfl (lv_at hl 0 rfl) ?_
      refine g_get C h fl_X11_12 0 0 rfl rfl (v := .ref (a_t 0)) rfl dX11_moves_54 ?_
      refine lv_aload_n C.hx C.hb dX11_moves_57 rfl (lv_at hl 0 rfl) ?_
      refine g_get C h fl_X11_12 0 0 rfl rfl (v := .ref (a_t 0)) rfl dX11_moves_58 ?_
      refine g_get C h fl_X11_102 1 0 rfl rfl (v := .int (v_t_now.1 5)) rfl dX11_moves_61 ?_
      refine lv_iload_n C.hx C.hb dX11_moves_64 rfl (lv_at hl 3 rfl) ?_
      obtain ⟨zr12, zq13, hf⟩ := bd_some hf
      have zm14 := c_X8_moveOf l G (a_t 9) (a_t 0) a_t_now a_t_swing (hf := zq13)
      refine g_goI C h zm14.1 (is := [2, 1]) rfl rfl (g_runV C h (is := [2, 1]) rfl rfl (As := [.ref (a_t 0), .int (v_t_now.1 5), .int x3]) (rest := []) (zm14.2 _) vf_X11_148 2 0 rfl rfl hl.1 rfl rfl (Nat.le_of_ble_eq_true rfl) dX11_moves_65 ⟨Nat.le_of_ble_eq_true rfl, Nat.le_of_ble_eq_true rfl⟩ ⟨Nat.le_refl _, Nat.le_refl _⟩) (us2 := [uX11 G o_t a_t v_t, uX9 G (a_t 0) a_t_now v_t_now, uX8 G (a_t 9) a_t_swing zr9, uX2 G (a_t_swing 0) a_t_swing_kinds]) rfl (fun H locs h => ?_)
      obtain rfl := Option.some.inj hf
      exact g_ret_i C h rfl rfl dX11_moves_68
    · replace hf := it_t zc8 hf
      exact w_X11_moves_20 C  hf h (lv_sub hl [0] rfl)

def f_X11_open (v_t : US) (v_t_now : US)  : Option (Int32) :=
  some (v_t_now.1 7)
set_option maxRecDepth 100000 in
set_option maxHeartbeats 4000000 in
theorem c_X11_open (l : Launch) (G : GG) (o_t : Nat) (a_t a_t_now : Nat → Nat) {v_t : US} {v_t_now : US}  {res : Int32} (hf : f_X11_open v_t v_t_now = some res) : MI l yX11_open cX11_open 1 (some .int) 1 [.ref o_t] G [uX11 G o_t a_t v_t, uX9 G (a_t 0) a_t_now v_t_now] res [uX11 G o_t a_t v_t, uX9 G (a_t 0) a_t_now v_t_now] := by
  unfold f_X11_open at hf
  refine MI.intro (by decide) rfl (Nat.le_of_ble_eq_true rfl) (fun p e s m args below meth c A ls C h hl => ?_)
  have C : MC RX11 cX11_open 1 (some .int) G A p s m args meth c := C
  have hl : lv_has ls 1 [(0, .ref o_t)] := hl
  refine lv_aload_n C.hx C.hb dX11_open_0 rfl (lv_at hl 0 rfl) ?_
  refine g_get C h fl_X11_12 0 0 rfl rfl (v := .ref (a_t 0)) rfl dX11_open_1 ?_
  refine g_get C h fl_X11_142 1 0 rfl rfl (v := .int (v_t_now.1 7)) rfl dX11_open_4 ?_
  obtain rfl := Option.some.inj hf
  exact g_ret_i C h rfl rfl dX11_open_7

def f_X11_order (N : Nat) (v_t : US) (v_t_day : US) (v_t_day_swing : US) (v_t_now : US) (x1 : Int32) : Option (Int32 × US × US × US) :=
  if (-1) ≤ x1 then (if x1 < (v_t_now.1 8) then ((f_X0_findOrder N v_t_day v_t_now v_t_day_swing).bind fun zr3 => if x1 = (-1) then (some (zr3.1.1 5, v_t, zr3.1, zr3.2)) else (if x1 < 0 ∨ 5 ≤ x1.toNatClampNeg then none else (some ((zr3.1.2.2 6) x1.toNatClampNeg, v_t, zr3.1, zr3.2)))) else (some ((-5), v_t, v_t_day, v_t_day_swing))) else ((f_X11_bad v_t (-10)).bind fun zr8 => some (zr8.1, zr8.2, v_t_day, v_t_day_swing))
set_option maxRecDepth 100000 in
set_option maxHeartbeats 4000000 in
theorem c_X11_order (l : Launch) (G : GG) (o_t : Nat) (a_t a_t_day a_t_day_swing a_t_day_swing_kinds a_t_now : Nat → Nat) (N : Nat) {v_t : US} {v_t_day : US} {v_t_day_swing : US} {v_t_now : US} {x1 : Int32} {res : Int32 × US × US × US} (hf : f_X11_order N v_t v_t_day v_t_day_swing v_t_now x1 = some res) : MI l yX11_order cX11_order 2 (some .int) 11 [.ref o_t, .int x1] G [uX11 G o_t a_t v_t, uX0 G (a_t 10) a_t_day v_t_day, uX8 G (a_t_day 0) a_t_day_swing v_t_day_swing, uX2 G (a_t_day_swing 0) a_t_day_swing_kinds, uX9 G (a_t 0) a_t_now v_t_now] res.1 [uX11 G o_t a_t res.2.1, uX0 G (a_t 10) a_t_day res.2.2.1, uX8 G (a_t_day 0) a_t_day_swing res.2.2.2, uX2 G (a_t_day_swing 0) a_t_day_swing_kinds, uX9 G (a_t 0) a_t_now v_t_now] := by
  unfold f_X11_order at hf
  refine MI.intro (by decide) rfl (Nat.le_of_ble_eq_true rfl) (fun p e s m args below meth c A ls C h hl => ?_)
  have C : MC RX11 cX11_order 2 (some .int) G A p s m args meth c := C
  have hl : lv_has ls 2 [(0, .ref o_t), (1, .int x1)] := hl
  refine lv_iload_n C.hx C.hb dX11_order_0 rfl (lv_at hl 1 rfl) ?_
  refine lv_iconst (v := (-1)) C.hx C.hb dX11_order_1 (by decide) ?_
  refine lv_icmp_ge (tgt := 12) C.hx C.hb dX11_order_2 (by decide) (fun zc1 => ?_) (fun zc1 => ?_)
  · replace hf := it_t zc1 hf
    refine lv_iload_n C.hx C.hb dX11_order_12 rfl (lv_at hl 1 rfl) ?_
    refine lv_aload_n C.hx C.hb dX11_order_13 rfl (lv_at hl 0 rfl) ?_
    refine g_get C h fl_X11_12 0 0 rfl rfl (v := .ref (a_t 0)) rfl dX11_order_14 ?_
    refine g_get C h fl_X11_158 4 0 rfl rfl (v := .int (v_t_now.1 8)) rfl dX11_order_17 ?_
    refine lv_icmp_lt (tgt := 26) C.hx C.hb dX11_order_20 (by decide) (fun zc2 => ?_) (fun zc2 => ?_)
    · replace hf := it_t zc2 hf
      refine lv_aload_n C.hx C.hb dX11_order_26 rfl (lv_at hl 0 rfl) ?_
      refine g_get C h fl_X11_61 0 0 rfl rfl (v := .ref (a_t 10)) rfl dX11_order_27 ?_
      refine lv_aload_n C.hx C.hb dX11_order_30 rfl (lv_at hl 0 rfl) ?_
      refine g_get C h fl_X11_12 0 0 rfl rfl (v := .ref (a_t 0)) rfl dX11_order_31 ?_
      obtain ⟨zr3, zq4, hf⟩ := bd_some hf
      have zm5 := c_X0_findOrder l G (a_t 10) (a_t 0) a_t_now a_t_day a_t_day_swing a_t_day_swing_kinds N (hf := zq4)
      refine g_goV C h zm5.1 (is := [1, 4, 2, 3]) rfl rfl (g_runV C h (is := [1, 4, 2, 3]) rfl rfl (As := [.ref (a_t 0)]) (rest := []) (zm5.2 _) vf_X11_165 1 0 rfl rfl hl.1 rfl rfl (Nat.le_of_ble_eq_true rfl) dX11_order_34 ⟨Nat.le_of_ble_eq_true rfl, Nat.le_of_ble_eq_true rfl⟩ ⟨Nat.le_refl _, Nat.le_refl _⟩) (us2 := [uX11 G o_t a_t v_t, uX0 G (a_t 10) a_t_day zr3.1, uX8 G (a_t_day 0) a_t_day_swing zr3.2, uX2 G (a_t_day_swing 0) a_t_day_swing_kinds, uX9 G (a_t 0) a_t_now v_t_now]) rfl (fun H locs h => ?_)
      refine lv_iload_n C.hx C.hb dX11_order_37 rfl (lv_at hl 1 rfl) ?_
      refine lv_iconst (v := (-1)) C.hx C.hb dX11_order_38 (by decide) ?_
      refine lv_icmp_ne (tgt := 52) C.hx C.hb dX11_order_39 (by decide) (fun zc6 => ?_) (fun zc6 => ?_)
      · replace hf := it_f zc6 hf
        refine lv_aload_n C.hx C.hb dX11_order_52 rfl (lv_at hl 0 rfl) ?_
        refine g_get C h fl_X11_61 0 0 rfl rfl (v := .ref (a_t 10)) rfl dX11_order_53 ?_
        refine g_get C h fl_X11_171 1 0 rfl rfl (v := .ref (a_t_day 6)) rfl dX11_order_56 ?_
        refine lv_iload_n C.hx C.hb dX11_order_59 rfl (lv_at hl 1 rfl) ?_
        obtain ⟨zi7, hf⟩ := ck_some hf
        refine g_iald C h 1 4 rfl rfl (f := zr3.1.2.2 6) zi7 dX11_order_60 ?_
        obtain rfl := Option.some.inj hf
        exact g_ret_i C h rfl rfl dX11_order_61
      · replace hf := it_t zc6 hf
        refine lv_aload_n C.hx C.hb dX11_order_42 rfl (lv_at hl 0 rfl) ?_
        refine g_get C h fl_X11_61 0 0 rfl rfl (v := .ref (a_t 10)) rfl dX11_order_43 ?_
        refine g_get C h fl_X11_168 1 0 rfl rfl (v := .int (zr3.1.1 5)) rfl dX11_order_46 ?_
        refine lv_goto (tgt := 61) C.hx C.hb dX11_order_49 (by decide) ?_
        obtain rfl := Option.some.inj hf
        exact g_ret_i C h rfl rfl dX11_order_61
    · replace hf := it_f zc2 hf
      refine lv_bipush (v := (-5)) C.hx C.hb dX11_order_23 (by decide) ?_
      obtain rfl := Option.some.inj hf
      exact g_ret_i C h rfl rfl dX11_order_25
  · replace hf := it_f zc1 hf
    refine lv_aload_n C.hx C.hb dX11_order_5 rfl (lv_at hl 0 rfl) ?_
    refine lv_bipush (v := (-10)) C.hx C.hb dX11_order_6 (by decide) ?_
    obtain ⟨zr8, zq9, hf⟩ := bd_some hf
    have zm10 := c_X11_bad l G o_t a_t (hf := zq9)
    refine g_goI C h zm10.1 (is := [0]) rfl rfl (g_runV C h (is := [0]) rfl rfl (As := [.int (-10)]) (rest := []) (zm10.2 _) vf_X11_83 0 0 rfl rfl hl.1 rfl rfl (Nat.le_of_ble_eq_true rfl) dX11_order_8 ⟨Nat.le_of_ble_eq_true rfl, Nat.le_of_ble_eq_true rfl⟩ ⟨Nat.le_refl _, Nat.le_refl _⟩) (us2 := [uX11 G o_t a_t zr8.2, uX0 G (a_t 10) a_t_day v_t_day, uX8 G (a_t_day 0) a_t_day_swing v_t_day_swing, uX2 G (a_t_day_swing 0) a_t_day_swing_kinds, uX9 G (a_t 0) a_t_now v_t_now]) rfl (fun H locs h => ?_)
    obtain rfl := Option.some.inj hf
    exact g_ret_i C h rfl rfl dX11_order_11

def f_X11_part (v_t : US) (x1 : Int32) : Option (Int64 × US) :=
  (f_X11_within x1 0 1).bind fun zr1 => if (b2i zr1) = 0 then ((f_X11_bad v_t (-1000)).bind fun zr6 => some (zr6.1.toInt64, zr6.2)) else (if x1 = 0 then (some (v_t.2.1 4, v_t)) else (some (v_t.2.1 5, v_t)))
set_option maxRecDepth 100000 in
set_option maxHeartbeats 4000000 in
theorem c_X11_part (l : Launch) (G : GG) (o_t : Nat) (a_t : Nat → Nat) {v_t : US} {x1 : Int32} {res : Int64 × US} (hf : f_X11_part v_t x1 = some res) : ML l yX11_part cX11_part 2 (some .long) 2 [.ref o_t, .int x1] G [uX11 G o_t a_t v_t] res.1 [uX11 G o_t a_t res.2] := by
  unfold f_X11_part at hf
  refine ML.intro (by decide) rfl (Nat.le_of_ble_eq_true rfl) (fun p e s m args below meth c A ls C h hl => ?_)
  have C : MC RX11 cX11_part 2 (some .long) G A p s m args meth c := C
  have hl : lv_has ls 2 [(0, .ref o_t), (1, .int x1)] := hl
  refine lv_iload_n C.hx C.hb dX11_part_0 rfl (lv_at hl 1 rfl) ?_
  refine lv_iconst (v := 0) C.hx C.hb dX11_part_1 (by decide) ?_
  refine lv_iconst (v := 1) C.hx C.hb dX11_part_2 (by decide) ?_
  obtain ⟨zr1, zq2, hf⟩ := bd_some hf
  have zm3 := c_X11_within l G  (hf := zq2)
  refine g_goI C h zm3.1 (is := []) rfl rfl (g_runS C h (is := []) rfl rfl (As := [.int x1, .int 0, .int 1]) (rest := []) (zm3.2 _) sf_X11_79 hl.1 rfl rfl (Nat.le_of_ble_eq_true rfl) dX11_part_3 ⟨Nat.le_of_ble_eq_true rfl, Nat.le_of_ble_eq_true rfl⟩ ⟨Nat.le_refl _, Nat.le_refl _⟩) (us2 := [uX11 G o_t a_t v_t]) rfl (fun H locs h => ?_)
  refine lv_if_ne (tgt := 18) C.hx C.hb dX11_part_6 (by decide) (fun zc4 => ?_) (fun zc4 => ?_)
  · replace hf := it_f zc4 hf
    refine lv_iload_n C.hx C.hb dX11_part_18 rfl (lv_at hl 1 rfl) ?_
    refine lv_if_ne (tgt := 29) C.hx C.hb dX11_part_19 (by decide) (fun zc5 => ?_) (fun zc5 => ?_)
    · replace hf := it_f zc5 hf
      refine lv_aload_n C.hx C.hb dX11_part_29 rfl (lv_at hl 0 rfl) ?_
      refine g_get C h fl_X11_32 0 0 rfl rfl (v := .long (v_t.2.1 5)) rfl dX11_part_30 ?_
      obtain rfl := Option.some.inj hf
      exact g_ret_l C h rfl rfl dX11_part_33
    · replace hf := it_t zc5 hf
      refine lv_aload_n C.hx C.hb dX11_part_22 rfl (lv_at hl 0 rfl) ?_
      refine g_get C h fl_X11_28 0 0 rfl rfl (v := .long (v_t.2.1 4)) rfl dX11_part_23 ?_
      refine lv_goto (tgt := 33) C.hx C.hb dX11_part_26 (by decide) ?_
      obtain rfl := Option.some.inj hf
      exact g_ret_l C h rfl rfl dX11_part_33
  · replace hf := it_t zc4 hf
    refine lv_aload_n C.hx C.hb dX11_part_9 rfl (lv_at hl 0 rfl) ?_
    refine lv_sipush (v := (-1000)) C.hx C.hb dX11_part_10 (by decide) ?_
    obtain ⟨zr6, zq7, hf⟩ := bd_some hf
    have zm8 := c_X11_bad l G o_t a_t (hf := zq7)
    refine g_goI C h zm8.1 (is := [0]) rfl rfl (g_runV C h (is := [0]) rfl rfl (As := [.int (-1000)]) (rest := []) (zm8.2 _) vf_X11_83 0 0 rfl rfl hl.1 rfl rfl (Nat.le_of_ble_eq_true rfl) dX11_part_13 ⟨Nat.le_of_ble_eq_true rfl, Nat.le_of_ble_eq_true rfl⟩ ⟨Nat.le_refl _, Nat.le_refl _⟩) (us2 := [uX11 G o_t a_t zr6.2]) rfl (fun H locs h => ?_)
    refine lv_i2l C.hx C.hb dX11_part_16 rfl ?_
    obtain rfl := Option.some.inj hf
    exact g_ret_l C h rfl rfl dX11_part_17

def f_X11_pull (N : Nat) (v_t : US) (v_t_now : US) (v_t_swing : US) (x1 : Int32) (x2 : Int32) : Option (Int32 × US × US × US) :=
  (f_X11_isPull v_t v_t_now x1 x2).bind fun zr1 => if (b2i zr1) = 0 then ((f_X11_bad v_t (-2)).bind fun zr11 => some (zr11.1, zr11.2, v_t_now, v_t_swing)) else ((f_X8_by N v_t_swing v_t_now (v_t_now.1 5) x1 x2 (-1) 0).bind fun zr5 => (f_X11_doSwing v_t v_t_now zr5).bind fun zr8 => some (zr8.1, v_t, zr8.2, zr5))
set_option maxRecDepth 100000 in
set_option maxHeartbeats 4000000 in
theorem c_X11_pull (l : Launch) (G : GG) (o_t : Nat) (a_t a_t_now a_t_swing a_t_swing_kinds : Nat → Nat) (N : Nat) {v_t : US} {v_t_now : US} {v_t_swing : US} {x1 : Int32} {x2 : Int32} {res : Int32 × US × US × US} (hf : f_X11_pull N v_t v_t_now v_t_swing x1 x2 = some res) : MI l yX11_pull cX11_pull 3 (some .int) 5 [.ref o_t, .int x1, .int x2] G [uX11 G o_t a_t v_t, uX9 G (a_t 0) a_t_now v_t_now, uX8 G (a_t 9) a_t_swing v_t_swing, uX2 G (a_t_swing 0) a_t_swing_kinds] res.1 [uX11 G o_t a_t res.2.1, uX9 G (a_t 0) a_t_now res.2.2.1, uX8 G (a_t 9) a_t_swing res.2.2.2, uX2 G (a_t_swing 0) a_t_swing_kinds] := by
  unfold f_X11_pull at hf
  refine MI.intro (by decide) rfl (Nat.le_of_ble_eq_true rfl) (fun p e s m args below meth c A ls C h hl => ?_)
  have C : MC RX11 cX11_pull 3 (some .int) G A p s m args meth c := C
  have hl : lv_has ls 3 [(0, .ref o_t), (1, .int x1), (2, .int x2)] := hl
  refine lv_aload_n C.hx C.hb dX11_pull_0 rfl (lv_at hl 0 rfl) ?_
  refine lv_iload_n C.hx C.hb dX11_pull_1 rfl (lv_at hl 1 rfl) ?_
  refine lv_iload_n C.hx C.hb dX11_pull_2 rfl (lv_at hl 2 rfl) ?_
  obtain ⟨zr1, zq2, hf⟩ := bd_some hf
  have zm3 := c_X11_isPull l G o_t a_t a_t_now (hf := zq2)
  refine g_goI C h zm3.1 (is := [0, 1]) rfl rfl (g_runV C h (is := [0, 1]) rfl rfl (As := [.int x1, .int x2]) (rest := []) (zm3.2 _) vf_X11_132 0 0 rfl rfl hl.1 rfl rfl (Nat.le_of_ble_eq_true rfl) dX11_pull_3 ⟨Nat.le_of_ble_eq_true rfl, Nat.le_of_ble_eq_true rfl⟩ ⟨Nat.le_refl _, Nat.le_refl _⟩) (us2 := [uX11 G o_t a_t v_t, uX9 G (a_t 0) a_t_now v_t_now, uX8 G (a_t 9) a_t_swing v_t_swing, uX2 G (a_t_swing 0) a_t_swing_kinds]) rfl (fun H locs h => ?_)
  refine lv_if_ne (tgt := 16) C.hx C.hb dX11_pull_6 (by decide) (fun zc4 => ?_) (fun zc4 => ?_)
  · replace hf := it_f zc4 hf
    refine lv_aload_n C.hx C.hb dX11_pull_16 rfl (lv_at hl 0 rfl) ?_
    refine g_get C h fl_X11_52 0 0 rfl rfl (v := .ref (a_t 9)) rfl dX11_pull_17 ?_
    refine lv_aload_n C.hx C.hb dX11_pull_20 rfl (lv_at hl 0 rfl) ?_
    refine g_get C h fl_X11_12 0 0 rfl rfl (v := .ref (a_t 0)) rfl dX11_pull_21 ?_
    refine lv_aload_n C.hx C.hb dX11_pull_24 rfl (lv_at hl 0 rfl) ?_
    refine g_get C h fl_X11_12 0 0 rfl rfl (v := .ref (a_t 0)) rfl dX11_pull_25 ?_
    refine g_get C h fl_X11_102 1 0 rfl rfl (v := .int (v_t_now.1 5)) rfl dX11_pull_28 ?_
    refine lv_iload_n C.hx C.hb dX11_pull_31 rfl (lv_at hl 1 rfl) ?_
    refine lv_iload_n C.hx C.hb dX11_pull_32 rfl (lv_at hl 2 rfl) ?_
    refine lv_iconst (v := (-1)) C.hx C.hb dX11_pull_33 (by decide) ?_
    refine lv_iconst (v := 0) C.hx C.hb dX11_pull_34 (by decide) ?_
    obtain ⟨zr5, zq6, hf⟩ := bd_some hf
    have zm7 := c_X8_by l G (a_t 9) (a_t 0) a_t_now a_t_swing a_t_swing_kinds N (hf := zq6)
    refine g_goV C h zm7.1 (is := [2, 1, 3]) rfl rfl (g_runV C h (is := [2, 1, 3]) rfl rfl (As := [.ref (a_t 0), .int (v_t_now.1 5), .int x1, .int x2, .int (-1), .int 0]) (rest := []) (zm7.2 _) vf_X11_135 2 0 rfl rfl hl.1 rfl rfl (Nat.le_of_ble_eq_true rfl) dX11_pull_35 ⟨Nat.le_of_ble_eq_true rfl, Nat.le_of_ble_eq_true rfl⟩ ⟨Nat.le_refl _, Nat.le_refl _⟩) (us2 := [uX11 G o_t a_t v_t, uX9 G (a_t 0) a_t_now v_t_now, uX8 G (a_t 9) a_t_swing zr5, uX2 G (a_t_swing 0) a_t_swing_kinds]) rfl (fun H locs h => ?_)
    refine lv_aload_n C.hx C.hb dX11_pull_38 rfl (lv_at hl 0 rfl) ?_
    obtain ⟨zr8, zq9, hf⟩ := bd_some hf
    have zm10 := c_X11_doSwing l G o_t a_t a_t_now a_t_swing (hf := zq9)
    refine g_goI C h zm10.1 (is := [0, 1, 2]) rfl rfl (g_runV C h (is := [0, 1, 2]) rfl rfl (As := []) (rest := []) (zm10.2 _) vf_X11_139 0 0 rfl rfl hl.1 rfl rfl (Nat.le_of_ble_eq_true rfl) dX11_pull_39 ⟨Nat.le_of_ble_eq_true rfl, Nat.le_of_ble_eq_true rfl⟩ ⟨Nat.le_refl _, Nat.le_refl _⟩) (us2 := [uX11 G o_t a_t v_t, uX9 G (a_t 0) a_t_now zr8.2, uX8 G (a_t 9) a_t_swing zr5, uX2 G (a_t_swing 0) a_t_swing_kinds]) rfl (fun H locs h => ?_)
    obtain rfl := Option.some.inj hf
    exact g_ret_i C h rfl rfl dX11_pull_42
  · replace hf := it_t zc4 hf
    refine lv_aload_n C.hx C.hb dX11_pull_9 rfl (lv_at hl 0 rfl) ?_
    refine lv_bipush (v := (-2)) C.hx C.hb dX11_pull_10 (by decide) ?_
    obtain ⟨zr11, zq12, hf⟩ := bd_some hf
    have zm13 := c_X11_bad l G o_t a_t (hf := zq12)
    refine g_goI C h zm13.1 (is := [0]) rfl rfl (g_runV C h (is := [0]) rfl rfl (As := [.int (-2)]) (rest := []) (zm13.2 _) vf_X11_83 0 0 rfl rfl hl.1 rfl rfl (Nat.le_of_ble_eq_true rfl) dX11_pull_12 ⟨Nat.le_of_ble_eq_true rfl, Nat.le_of_ble_eq_true rfl⟩ ⟨Nat.le_refl _, Nat.le_refl _⟩) (us2 := [uX11 G o_t a_t zr11.2, uX9 G (a_t 0) a_t_now v_t_now, uX8 G (a_t 9) a_t_swing v_t_swing, uX2 G (a_t_swing 0) a_t_swing_kinds]) rfl (fun H locs h => ?_)
    obtain rfl := Option.some.inj hf
    exact g_ret_i C h rfl rfl dX11_pull_15

def f_X11_rope (v_t : US) (v_t_now : US) (x1 : Int32) (z2 : Bool) : Option (Int32 × US × US) :=
  (f_X9_hasThing v_t_now x1).bind fun zr1 => if (b2i zr1) = 0 then ((f_X11_bad v_t (-2)).bind fun zr12 => some (zr12.1, zr12.2, v_t_now)) else ((f_X11_has (v_t_now.1 5) x1).bind fun zr5 => if (b2i zr5) = (b2i z2) then ((f_X11_refusedNow v_t).bind fun zr9 => some (zr9.1, zr9.2, v_t_now)) else (some (1, v_t, upi v_t_now 5 ((v_t_now.1 5) ^^^ (1 <<< (x1 &&& 31))))))
set_option maxRecDepth 100000 in
set_option maxHeartbeats 4000000 in
theorem c_X11_rope (l : Launch) (G : GG) (o_t : Nat) (a_t a_t_now : Nat → Nat) {v_t : US} {v_t_now : US} {x1 : Int32} {z2 : Bool} {res : Int32 × US × US} (hf : f_X11_rope v_t v_t_now x1 z2 = some res) : MI l yX11_rope cX11_rope 3 (some .int) 3 [.ref o_t, .int x1, .int (b2i z2)] G [uX11 G o_t a_t v_t, uX9 G (a_t 0) a_t_now v_t_now] res.1 [uX11 G o_t a_t res.2.1, uX9 G (a_t 0) a_t_now res.2.2] := by
  unfold f_X11_rope at hf
  refine MI.intro (by decide) rfl (Nat.le_of_ble_eq_true rfl) (fun p e s m args below meth c A ls C h hl => ?_)
  have C : MC RX11 cX11_rope 3 (some .int) G A p s m args meth c := C
  have hl : lv_has ls 3 [(0, .ref o_t), (1, .int x1), (2, .int (b2i z2))] := hl
  refine lv_aload_n C.hx C.hb dX11_rope_0 rfl (lv_at hl 0 rfl) ?_
  refine g_get C h fl_X11_12 0 0 rfl rfl (v := .ref (a_t 0)) rfl dX11_rope_1 ?_
  refine lv_iload_n C.hx C.hb dX11_rope_4 rfl (lv_at hl 1 rfl) ?_
  obtain ⟨zr1, zq2, hf⟩ := bd_some hf
  have zm3 := c_X9_hasThing l G (a_t 0) a_t_now (hf := zq2)
  refine g_goI C h zm3.1 (is := [1]) rfl rfl (g_runV C h (is := [1]) rfl rfl (As := [.int x1]) (rest := []) (zm3.2 _) vf_X11_98 1 0 rfl rfl hl.1 rfl rfl (Nat.le_of_ble_eq_true rfl) dX11_rope_5 ⟨Nat.le_of_ble_eq_true rfl, Nat.le_of_ble_eq_true rfl⟩ ⟨Nat.le_refl _, Nat.le_refl _⟩) (us2 := [uX11 G o_t a_t v_t, uX9 G (a_t 0) a_t_now v_t_now]) rfl (fun H locs h => ?_)
  refine lv_if_ne (tgt := 18) C.hx C.hb dX11_rope_8 (by decide) (fun zc4 => ?_) (fun zc4 => ?_)
  · replace hf := it_f zc4 hf
    refine lv_aload_n C.hx C.hb dX11_rope_18 rfl (lv_at hl 0 rfl) ?_
    refine g_get C h fl_X11_12 0 0 rfl rfl (v := .ref (a_t 0)) rfl dX11_rope_19 ?_
    refine g_get C h fl_X11_102 1 0 rfl rfl (v := .int (v_t_now.1 5)) rfl dX11_rope_22 ?_
    refine lv_iload_n C.hx C.hb dX11_rope_25 rfl (lv_at hl 1 rfl) ?_
    obtain ⟨zr5, zq6, hf⟩ := bd_some hf
    have zm7 := c_X11_has l G  (hf := zq6)
    refine g_goI C h zm7.1 (is := []) rfl rfl (g_runS C h (is := []) rfl rfl (As := [.int (v_t_now.1 5), .int x1]) (rest := []) (zm7.2 _) sf_X11_105 hl.1 rfl rfl (Nat.le_of_ble_eq_true rfl) dX11_rope_26 ⟨Nat.le_of_ble_eq_true rfl, Nat.le_of_ble_eq_true rfl⟩ ⟨Nat.le_refl _, Nat.le_refl _⟩) (us2 := [uX11 G o_t a_t v_t, uX9 G (a_t 0) a_t_now v_t_now]) rfl (fun H locs h => ?_)
    refine lv_iload_n C.hx C.hb dX11_rope_29 rfl (lv_at hl 2 rfl) ?_
    refine lv_icmp_ne (tgt := 38) C.hx C.hb dX11_rope_30 (by decide) (fun zc8 => ?_) (fun zc8 => ?_)
    · replace hf := it_f zc8 hf
      refine lv_aload_n C.hx C.hb dX11_rope_38 rfl (lv_at hl 0 rfl) ?_
      refine g_get C h fl_X11_12 0 0 rfl rfl (v := .ref (a_t 0)) rfl dX11_rope_39 ?_
      refine lv_dup C.hx C.hb dX11_rope_42 rfl ?_
      refine g_get C h fl_X11_102 1 0 rfl rfl (v := .int (v_t_now.1 5)) rfl dX11_rope_43 ?_
      refine lv_iconst (v := 1) C.hx C.hb dX11_rope_46 (by decide) ?_
      refine lv_iload_n C.hx C.hb dX11_rope_47 rfl (lv_at hl 1 rfl) ?_
      refine lv_ishl C.hx C.hb dX11_rope_48 ?_
      refine lv_ixor C.hx C.hb dX11_rope_49 ?_
      refine g_put C h fp_X11_102 1 0 rfl rfl rfl rfl (Nat.le_of_ble_eq_true rfl) dX11_rope_50 (u' := uX9 G (a_t 0) a_t_now (upi v_t_now 5 ((v_t_now.1 5) ^^^ (1 <<< (x1 &&& 31))))) (us' := [uX11 G o_t a_t v_t, uX9 G (a_t 0) a_t_now (upi v_t_now 5 ((v_t_now.1 5) ^^^ (1 <<< (x1 &&& 31))))]) rfl rfl (fun H locs h => ?_)
      refine lv_iconst (v := 1) C.hx C.hb dX11_rope_53 (by decide) ?_
      obtain rfl := Option.some.inj hf
      exact g_ret_i C h rfl rfl dX11_rope_54
    · replace hf := it_t zc8 hf
      refine lv_aload_n C.hx C.hb dX11_rope_33 rfl (lv_at hl 0 rfl) ?_
      obtain ⟨zr9, zq10, hf⟩ := bd_some hf
      have zm11 := c_X11_refusedNow l G o_t a_t (hf := zq10)
      refine g_goI C h zm11.1 (is := [0]) rfl rfl (g_runV C h (is := [0]) rfl rfl (As := []) (rest := []) (zm11.2 _) vf_X11_109 0 0 rfl rfl hl.1 rfl rfl (Nat.le_of_ble_eq_true rfl) dX11_rope_34 ⟨Nat.le_of_ble_eq_true rfl, Nat.le_of_ble_eq_true rfl⟩ ⟨Nat.le_refl _, Nat.le_refl _⟩) (us2 := [uX11 G o_t a_t zr9.2, uX9 G (a_t 0) a_t_now v_t_now]) rfl (fun H locs h => ?_)
      obtain rfl := Option.some.inj hf
      exact g_ret_i C h rfl rfl dX11_rope_37
  · replace hf := it_t zc4 hf
    refine lv_aload_n C.hx C.hb dX11_rope_11 rfl (lv_at hl 0 rfl) ?_
    refine lv_bipush (v := (-2)) C.hx C.hb dX11_rope_12 (by decide) ?_
    obtain ⟨zr12, zq13, hf⟩ := bd_some hf
    have zm14 := c_X11_bad l G o_t a_t (hf := zq13)
    refine g_goI C h zm14.1 (is := [0]) rfl rfl (g_runV C h (is := [0]) rfl rfl (As := [.int (-2)]) (rest := []) (zm14.2 _) vf_X11_83 0 0 rfl rfl hl.1 rfl rfl (Nat.le_of_ble_eq_true rfl) dX11_rope_14 ⟨Nat.le_of_ble_eq_true rfl, Nat.le_of_ble_eq_true rfl⟩ ⟨Nat.le_refl _, Nat.le_refl _⟩) (us2 := [uX11 G o_t a_t zr12.2, uX9 G (a_t 0) a_t_now v_t_now]) rfl (fun H locs h => ?_)
    obtain rfl := Option.some.inj hf
    exact g_ret_i C h rfl rfl dX11_rope_17

def b_X11_rule_20  (v_t : US) (v_t_now : US)  : Option (Int32 × US × US) :=
  (f_X11_bad v_t (-2)).bind fun zr1 => some (zr1.1, zr1.2, v_t_now)
def f_X11_rule (v_t : US) (v_t_now : US) (x1 : Int32) (x2 : Int32) (x3 : Int32) : Option (Int32 × US × US) :=
  (f_X11_isPull v_t v_t_now x1 x2).bind fun zr1 => if (b2i zr1) = 0 then (b_X11_rule_20 v_t v_t_now) else ((f_X9_hasSet v_t_now x3).bind fun zr5 => if (b2i zr5) = 0 then (b_X11_rule_20 v_t v_t_now) else (if (v_t_now.1 11) < 4 then ((f_X9_addRule v_t_now x1 x2 x3).bind fun zr10 => some ((zr10.1 11) - 1, v_t, zr10)) else ((f_X11_tooMany v_t).bind fun zr13 => some (zr13.1, zr13.2, v_t_now))))
set_option maxRecDepth 100000 in
set_option maxHeartbeats 4000000 in
theorem w_X11_rule_20 {p : Program} {l : Launch} {e : Env} {s : State} {m : MethodId} {args : Array Value} {below : List Frame} {meth : Method} {c : Code} {G : GG} {A : Nat → Prop} {o_t : Nat} {a_t a_t_now : Nat → Nat}  {v_t : US} {v_t_now : US}  {res : Int32 × US × US} (C : MC RX11 cX11_rule 4 (some .int) G A p s m args meth c)  (hf : b_X11_rule_20 v_t v_t_now = some res) {H : Heap} {locs : List Loc} {ls : Array Slot} (h : HP G A s [uX11 G o_t a_t v_t, uX9 G (a_t 0) a_t_now v_t_now] H locs) (hl : lv_has ls 4 [(0, .ref o_t)]) : W p l e (rmm 4) s m args below meth c H locs 0 0 (QI below G A args s res.1 [uX11 G o_t a_t res.2.1, uX9 G (a_t 0) a_t_now res.2.2]) (F0 m 20 ls []) := by
  unfold b_X11_rule_20 at hf
  refine lv_aload_n C.hx C.hb dX11_rule_20 rfl (lv_at hl 0 rfl) ?_
  refine lv_bipush (v := (-2)) C.hx C.hb dX11_rule_21 (by decide) ?_
  obtain ⟨zr1, zq2, hf⟩ := bd_some hf
  have zm3 := c_X11_bad l G o_t a_t (hf := zq2)
  refine g_goI C h zm3.1 (is := [0]) rfl rfl (g_runV C h (is := [0]) rfl rfl (As := [.int (-2)]) (rest := []) (zm3.2 _) vf_X11_83 0 0 rfl rfl hl.1 rfl rfl (Nat.le_of_ble_eq_true rfl) dX11_rule_23 ⟨Nat.le_of_ble_eq_true rfl, Nat.le_of_ble_eq_true rfl⟩ ⟨Nat.le_refl _, Nat.le_refl _⟩) (us2 := [uX11 G o_t a_t zr1.2, uX9 G (a_t 0) a_t_now v_t_now]) rfl (fun H locs h => ?_)
  obtain rfl := Option.some.inj hf
  exact g_ret_i C h rfl rfl dX11_rule_26
set_option maxRecDepth 100000 in
set_option maxHeartbeats 4000000 in
theorem c_X11_rule (l : Launch) (G : GG) (o_t : Nat) (a_t a_t_now : Nat → Nat) {v_t : US} {v_t_now : US} {x1 : Int32} {x2 : Int32} {x3 : Int32} {res : Int32 × US × US} (hf : f_X11_rule v_t v_t_now x1 x2 x3 = some res) : MI l yX11_rule cX11_rule 4 (some .int) 4 [.ref o_t, .int x1, .int x2, .int x3] G [uX11 G o_t a_t v_t, uX9 G (a_t 0) a_t_now v_t_now] res.1 [uX11 G o_t a_t res.2.1, uX9 G (a_t 0) a_t_now res.2.2] := by
  unfold f_X11_rule at hf
  refine MI.intro (by decide) rfl (Nat.le_of_ble_eq_true rfl) (fun p e s m args below meth c A ls C h hl => ?_)
  have C : MC RX11 cX11_rule 4 (some .int) G A p s m args meth c := C
  have hl : lv_has ls 4 [(0, .ref o_t), (1, .int x1), (2, .int x2), (3, .int x3)] := hl
  refine lv_aload_n C.hx C.hb dX11_rule_0 rfl (lv_at hl 0 rfl) ?_
  refine lv_iload_n C.hx C.hb dX11_rule_1 rfl (lv_at hl 1 rfl) ?_
  refine lv_iload_n C.hx C.hb dX11_rule_2 rfl (lv_at hl 2 rfl) ?_
  obtain ⟨zr1, zq2, hf⟩ := bd_some hf
  have zm3 := c_X11_isPull l G o_t a_t a_t_now (hf := zq2)
  refine g_goI C h zm3.1 (is := [0, 1]) rfl rfl (g_runV C h (is := [0, 1]) rfl rfl (As := [.int x1, .int x2]) (rest := []) (zm3.2 _) vf_X11_132 0 0 rfl rfl hl.1 rfl rfl (Nat.le_of_ble_eq_true rfl) dX11_rule_3 ⟨Nat.le_of_ble_eq_true rfl, Nat.le_of_ble_eq_true rfl⟩ ⟨Nat.le_refl _, Nat.le_refl _⟩) (us2 := [uX11 G o_t a_t v_t, uX9 G (a_t 0) a_t_now v_t_now]) rfl (fun H locs h => ?_)
  refine lv_if_eq (tgt := 20) C.hx C.hb dX11_rule_6 (by decide) (fun zc4 => ?_) (fun zc4 => ?_)
  · replace hf := it_t zc4 hf
    exact w_X11_rule_20 C  hf h (lv_sub hl [0] rfl)
  · replace hf := it_f zc4 hf
    refine lv_aload_n C.hx C.hb dX11_rule_9 rfl (lv_at hl 0 rfl) ?_
    refine g_get C h fl_X11_12 0 0 rfl rfl (v := .ref (a_t 0)) rfl dX11_rule_10 ?_
    refine lv_iload_n C.hx C.hb dX11_rule_13 rfl (lv_at hl 3 rfl) ?_
    obtain ⟨zr5, zq6, hf⟩ := bd_some hf
    have zm7 := c_X9_hasSet l G (a_t 0) a_t_now (hf := zq6)
    refine g_goI C h zm7.1 (is := [1]) rfl rfl (g_runV C h (is := [1]) rfl rfl (As := [.int x3]) (rest := []) (zm7.2 _) vf_X11_174 1 0 rfl rfl hl.1 rfl rfl (Nat.le_of_ble_eq_true rfl) dX11_rule_14 ⟨Nat.le_of_ble_eq_true rfl, Nat.le_of_ble_eq_true rfl⟩ ⟨Nat.le_refl _, Nat.le_refl _⟩) (us2 := [uX11 G o_t a_t v_t, uX9 G (a_t 0) a_t_now v_t_now]) rfl (fun H locs h => ?_)
    refine lv_if_ne (tgt := 27) C.hx C.hb dX11_rule_17 (by decide) (fun zc8 => ?_) (fun zc8 => ?_)
    · replace hf := it_f zc8 hf
      refine lv_aload_n C.hx C.hb dX11_rule_27 rfl (lv_at hl 0 rfl) ?_
      refine g_get C h fl_X11_12 0 0 rfl rfl (v := .ref (a_t 0)) rfl dX11_rule_28 ?_
      refine g_get C h fl_X11_207 1 0 rfl rfl (v := .int (v_t_now.1 11)) rfl dX11_rule_31 ?_
      refine lv_iconst (v := 4) C.hx C.hb dX11_rule_34 (by decide) ?_
      refine lv_icmp_lt (tgt := 43) C.hx C.hb dX11_rule_35 (by decide) (fun zc9 => ?_) (fun zc9 => ?_)
      · replace hf := it_t zc9 hf
        refine lv_aload_n C.hx C.hb dX11_rule_43 rfl (lv_at hl 0 rfl) ?_
        refine g_get C h fl_X11_12 0 0 rfl rfl (v := .ref (a_t 0)) rfl dX11_rule_44 ?_
        refine lv_iload_n C.hx C.hb dX11_rule_47 rfl (lv_at hl 1 rfl) ?_
        refine lv_iload_n C.hx C.hb dX11_rule_48 rfl (lv_at hl 2 rfl) ?_
        refine lv_iload_n C.hx C.hb dX11_rule_49 rfl (lv_at hl 3 rfl) ?_
        obtain ⟨zr10, zq11, hf⟩ := bd_some hf
        have zm12 := c_X9_addRule l G (a_t 0) a_t_now (hf := zq11)
        refine g_goV C h zm12.1 (is := [1]) rfl rfl (g_runV C h (is := [1]) rfl rfl (As := [.int x1, .int x2, .int x3]) (rest := []) (zm12.2 _) vf_X11_210 1 0 rfl rfl hl.1 rfl rfl (Nat.le_of_ble_eq_true rfl) dX11_rule_50 ⟨Nat.le_of_ble_eq_true rfl, Nat.le_of_ble_eq_true rfl⟩ ⟨Nat.le_refl _, Nat.le_refl _⟩) (us2 := [uX11 G o_t a_t v_t, uX9 G (a_t 0) a_t_now zr10]) rfl (fun H locs h => ?_)
        refine lv_aload_n C.hx C.hb dX11_rule_53 rfl (lv_at hl 0 rfl) ?_
        refine g_get C h fl_X11_12 0 0 rfl rfl (v := .ref (a_t 0)) rfl dX11_rule_54 ?_
        refine g_get C h fl_X11_207 1 0 rfl rfl (v := .int (zr10.1 11)) rfl dX11_rule_57 ?_
        refine lv_iconst (v := 1) C.hx C.hb dX11_rule_60 (by decide) ?_
        refine lv_isub C.hx C.hb dX11_rule_61 ?_
        obtain rfl := Option.some.inj hf
        exact g_ret_i C h rfl rfl dX11_rule_62
      · replace hf := it_f zc9 hf
        refine lv_aload_n C.hx C.hb dX11_rule_38 rfl (lv_at hl 0 rfl) ?_
        obtain ⟨zr13, zq14, hf⟩ := bd_some hf
        have zm15 := c_X11_tooMany l G o_t a_t (hf := zq14)
        refine g_goI C h zm15.1 (is := [0]) rfl rfl (g_runV C h (is := [0]) rfl rfl (As := []) (rest := []) (zm15.2 _) vf_X11_90 0 0 rfl rfl hl.1 rfl rfl (Nat.le_of_ble_eq_true rfl) dX11_rule_39 ⟨Nat.le_of_ble_eq_true rfl, Nat.le_of_ble_eq_true rfl⟩ ⟨Nat.le_refl _, Nat.le_refl _⟩) (us2 := [uX11 G o_t a_t zr13.2, uX9 G (a_t 0) a_t_now v_t_now]) rfl (fun H locs h => ?_)
        obtain rfl := Option.some.inj hf
        exact g_ret_i C h rfl rfl dX11_rule_42
    · replace hf := it_t zc8 hf
      exact w_X11_rule_20 C  hf h (lv_sub hl [0] rfl)

def f_X11_share (N : Nat) (v_t : US) (v_t_day : US) (v_t_day_swing : US) (v_t_now : US) (x1 : Int32) : Option (Int32 × US × US × US) :=
  (f_X9_hasThing v_t_now x1).bind fun zr1 => if (b2i zr1) = 0 then ((f_X11_bad v_t (-2)).bind fun zr14 => some (zr14.1, zr14.2, v_t_day, v_t_day_swing)) else ((f_X0_findHarmOfRopes N v_t_day v_t_now v_t_day_swing).bind fun zr5 => (f_X0_weighShare N zr5.1 (v_t_now.1 0) x1).bind fun zr8 => (f_X11_keepFraction N v_t (zr8.1 13) (zr8.1 14)).bind fun zr11 => some (1, zr11, zr8, zr5.2))
set_option maxRecDepth 100000 in
set_option maxHeartbeats 4000000 in
theorem c_X11_share (l : Launch) (G : GG) (o_t : Nat) (a_t a_t_day a_t_day_swing a_t_day_swing_kinds a_t_now : Nat → Nat) (N : Nat) {v_t : US} {v_t_day : US} {v_t_day_swing : US} {v_t_now : US} {x1 : Int32} {res : Int32 × US × US × US} (hf : f_X11_share N v_t v_t_day v_t_day_swing v_t_now x1 = some res) : MI l yX11_share cX11_share 2 (some .int) 7 [.ref o_t, .int x1] G [uX11 G o_t a_t v_t, uX0 G (a_t 10) a_t_day v_t_day, uX8 G (a_t_day 0) a_t_day_swing v_t_day_swing, uX2 G (a_t_day_swing 0) a_t_day_swing_kinds, uX9 G (a_t 0) a_t_now v_t_now] res.1 [uX11 G o_t a_t res.2.1, uX0 G (a_t 10) a_t_day res.2.2.1, uX8 G (a_t_day 0) a_t_day_swing res.2.2.2, uX2 G (a_t_day_swing 0) a_t_day_swing_kinds, uX9 G (a_t 0) a_t_now v_t_now] := by
  unfold f_X11_share at hf
  refine MI.intro (by decide) rfl (Nat.le_of_ble_eq_true rfl) (fun p e s m args below meth c A ls C h hl => ?_)
  have C : MC RX11 cX11_share 2 (some .int) G A p s m args meth c := C
  have hl : lv_has ls 2 [(0, .ref o_t), (1, .int x1)] := hl
  refine lv_aload_n C.hx C.hb dX11_share_0 rfl (lv_at hl 0 rfl) ?_
  refine g_get C h fl_X11_12 0 0 rfl rfl (v := .ref (a_t 0)) rfl dX11_share_1 ?_
  refine lv_iload_n C.hx C.hb dX11_share_4 rfl (lv_at hl 1 rfl) ?_
  obtain ⟨zr1, zq2, hf⟩ := bd_some hf
  have zm3 := c_X9_hasThing l G (a_t 0) a_t_now (hf := zq2)
  refine g_goI C h zm3.1 (is := [4]) rfl rfl (g_runV C h (is := [4]) rfl rfl (As := [.int x1]) (rest := []) (zm3.2 _) vf_X11_98 4 0 rfl rfl hl.1 rfl rfl (Nat.le_of_ble_eq_true rfl) dX11_share_5 ⟨Nat.le_of_ble_eq_true rfl, Nat.le_of_ble_eq_true rfl⟩ ⟨Nat.le_refl _, Nat.le_refl _⟩) (us2 := [uX11 G o_t a_t v_t, uX0 G (a_t 10) a_t_day v_t_day, uX8 G (a_t_day 0) a_t_day_swing v_t_day_swing, uX2 G (a_t_day_swing 0) a_t_day_swing_kinds, uX9 G (a_t 0) a_t_now v_t_now]) rfl (fun H locs h => ?_)
  refine lv_if_ne (tgt := 18) C.hx C.hb dX11_share_8 (by decide) (fun zc4 => ?_) (fun zc4 => ?_)
  · replace hf := it_f zc4 hf
    refine lv_aload_n C.hx C.hb dX11_share_18 rfl (lv_at hl 0 rfl) ?_
    refine g_get C h fl_X11_61 0 0 rfl rfl (v := .ref (a_t 10)) rfl dX11_share_19 ?_
    refine lv_aload_n C.hx C.hb dX11_share_22 rfl (lv_at hl 0 rfl) ?_
    refine g_get C h fl_X11_12 0 0 rfl rfl (v := .ref (a_t 0)) rfl dX11_share_23 ?_
    obtain ⟨zr5, zq6, hf⟩ := bd_some hf
    have zm7 := c_X0_findHarmOfRopes l G (a_t 10) (a_t 0) a_t_now a_t_day a_t_day_swing a_t_day_swing_kinds N (hf := zq6)
    refine g_goV C h zm7.1 (is := [1, 4, 2, 3]) rfl rfl (g_runV C h (is := [1, 4, 2, 3]) rfl rfl (As := [.ref (a_t 0)]) (rest := []) (zm7.2 _) vf_X11_226 1 0 rfl rfl hl.1 rfl rfl (Nat.le_of_ble_eq_true rfl) dX11_share_26 ⟨Nat.le_of_ble_eq_true rfl, Nat.le_of_ble_eq_true rfl⟩ ⟨Nat.le_refl _, Nat.le_refl _⟩) (us2 := [uX11 G o_t a_t v_t, uX0 G (a_t 10) a_t_day zr5.1, uX8 G (a_t_day 0) a_t_day_swing zr5.2, uX2 G (a_t_day_swing 0) a_t_day_swing_kinds, uX9 G (a_t 0) a_t_now v_t_now]) rfl (fun H locs h => ?_)
    refine lv_aload_n C.hx C.hb dX11_share_29 rfl (lv_at hl 0 rfl) ?_
    refine g_get C h fl_X11_61 0 0 rfl rfl (v := .ref (a_t 10)) rfl dX11_share_30 ?_
    refine lv_aload_n C.hx C.hb dX11_share_33 rfl (lv_at hl 0 rfl) ?_
    refine g_get C h fl_X11_12 0 0 rfl rfl (v := .ref (a_t 0)) rfl dX11_share_34 ?_
    refine g_get C h fl_X11_87 4 0 rfl rfl (v := .int (v_t_now.1 0)) rfl dX11_share_37 ?_
    refine lv_iload_n C.hx C.hb dX11_share_40 rfl (lv_at hl 1 rfl) ?_
    obtain ⟨zr8, zq9, hf⟩ := bd_some hf
    have zm10 := c_X0_weighShare l G (a_t 10) a_t_day N (hf := zq9)
    refine g_goV C h zm10.1 (is := [1]) rfl rfl (g_runV C h (is := [1]) rfl rfl (As := [.int (v_t_now.1 0), .int x1]) (rest := []) (zm10.2 _) vf_X11_229 1 0 rfl rfl hl.1 rfl rfl (Nat.le_of_ble_eq_true rfl) dX11_share_41 ⟨Nat.le_of_ble_eq_true rfl, Nat.le_of_ble_eq_true rfl⟩ ⟨Nat.le_refl _, Nat.le_refl _⟩) (us2 := [uX11 G o_t a_t v_t, uX0 G (a_t 10) a_t_day zr8, uX8 G (a_t_day 0) a_t_day_swing zr5.2, uX2 G (a_t_day_swing 0) a_t_day_swing_kinds, uX9 G (a_t 0) a_t_now v_t_now]) rfl (fun H locs h => ?_)
    refine lv_aload_n C.hx C.hb dX11_share_44 rfl (lv_at hl 0 rfl) ?_
    refine lv_aload_n C.hx C.hb dX11_share_45 rfl (lv_at hl 0 rfl) ?_
    refine g_get C h fl_X11_61 0 0 rfl rfl (v := .ref (a_t 10)) rfl dX11_share_46 ?_
    refine g_get C h fl_X11_232 1 0 rfl rfl (v := .int (zr8.1 13)) rfl dX11_share_49 ?_
    refine lv_aload_n C.hx C.hb dX11_share_52 rfl (lv_at hl 0 rfl) ?_
    refine g_get C h fl_X11_61 0 0 rfl rfl (v := .ref (a_t 10)) rfl dX11_share_53 ?_
    refine g_get C h fl_X11_235 1 0 rfl rfl (v := .int (zr8.1 14)) rfl dX11_share_56 ?_
    obtain ⟨zr11, zq12, hf⟩ := bd_some hf
    have zm13 := c_X11_keepFraction l G o_t a_t N (hf := zq12)
    refine g_goV C h zm13.1 (is := [0]) rfl rfl (g_runV C h (is := [0]) rfl rfl (As := [.int (zr8.1 13), .int (zr8.1 14)]) (rest := []) (zm13.2 _) vf_X11_238 0 0 rfl rfl hl.1 rfl rfl (Nat.le_of_ble_eq_true rfl) dX11_share_59 ⟨Nat.le_of_ble_eq_true rfl, Nat.le_of_ble_eq_true rfl⟩ ⟨Nat.le_refl _, Nat.le_refl _⟩) (us2 := [uX11 G o_t a_t zr11, uX0 G (a_t 10) a_t_day zr8, uX8 G (a_t_day 0) a_t_day_swing zr5.2, uX2 G (a_t_day_swing 0) a_t_day_swing_kinds, uX9 G (a_t 0) a_t_now v_t_now]) rfl (fun H locs h => ?_)
    refine lv_iconst (v := 1) C.hx C.hb dX11_share_62 (by decide) ?_
    obtain rfl := Option.some.inj hf
    exact g_ret_i C h rfl rfl dX11_share_63
  · replace hf := it_t zc4 hf
    refine lv_aload_n C.hx C.hb dX11_share_11 rfl (lv_at hl 0 rfl) ?_
    refine lv_bipush (v := (-2)) C.hx C.hb dX11_share_12 (by decide) ?_
    obtain ⟨zr14, zq15, hf⟩ := bd_some hf
    have zm16 := c_X11_bad l G o_t a_t (hf := zq15)
    refine g_goI C h zm16.1 (is := [0]) rfl rfl (g_runV C h (is := [0]) rfl rfl (As := [.int (-2)]) (rest := []) (zm16.2 _) vf_X11_83 0 0 rfl rfl hl.1 rfl rfl (Nat.le_of_ble_eq_true rfl) dX11_share_14 ⟨Nat.le_of_ble_eq_true rfl, Nat.le_of_ble_eq_true rfl⟩ ⟨Nat.le_refl _, Nat.le_refl _⟩) (us2 := [uX11 G o_t a_t zr14.2, uX0 G (a_t 10) a_t_day v_t_day, uX8 G (a_t_day 0) a_t_day_swing v_t_day_swing, uX2 G (a_t_day_swing 0) a_t_day_swing_kinds, uX9 G (a_t 0) a_t_now v_t_now]) rfl (fun H locs h => ?_)
    obtain rfl := Option.some.inj hf
    exact g_ret_i C h rfl rfl dX11_share_17

def f_X11_slack (N : Nat) (v_t : US) (v_t_now : US) (v_t_search : US) (x1 : Int32) : Option (Int32 × US × US) :=
  (f_X9_hasThing v_t_now x1).bind fun zr1 => if (b2i zr1) = 0 then ((f_X11_bad v_t (-10)).bind fun zr13 => some (zr13.1, zr13.2, v_t_search)) else ((f_X6_learn N v_t_search v_t_now).bind fun zr5 => (f_X6_fitsWithout N zr5 0).bind fun zr8 => if (b2i zr8.1) = 0 then (some ((-1), v_t, zr8.2)) else (if x1 < 0 ∨ 5 ≤ x1.toNatClampNeg then none else (some ((zr8.2.2.2 8) x1.toNatClampNeg, v_t, zr8.2))))
set_option maxRecDepth 100000 in
set_option maxHeartbeats 4000000 in
theorem c_X11_slack (l : Launch) (G : GG) (o_t : Nat) (a_t a_t_now a_t_search a_t_search_kinds : Nat → Nat) (N : Nat) {v_t : US} {v_t_now : US} {v_t_search : US} {x1 : Int32} {res : Int32 × US × US} (hf : f_X11_slack N v_t v_t_now v_t_search x1 = some res) : MI l yX11_slack cX11_slack 2 (some .int) 10 [.ref o_t, .int x1] G [uX11 G o_t a_t v_t, uX9 G (a_t 0) a_t_now v_t_now, uX6 G (a_t 11) a_t_search v_t_search, uX2 G (a_t_search 0) a_t_search_kinds] res.1 [uX11 G o_t a_t res.2.1, uX9 G (a_t 0) a_t_now v_t_now, uX6 G (a_t 11) a_t_search res.2.2, uX2 G (a_t_search 0) a_t_search_kinds] := by
  unfold f_X11_slack at hf
  refine MI.intro (by decide) rfl (Nat.le_of_ble_eq_true rfl) (fun p e s m args below meth c A ls C h hl => ?_)
  have C : MC RX11 cX11_slack 2 (some .int) G A p s m args meth c := C
  have hl : lv_has ls 2 [(0, .ref o_t), (1, .int x1)] := hl
  refine lv_aload_n C.hx C.hb dX11_slack_0 rfl (lv_at hl 0 rfl) ?_
  refine g_get C h fl_X11_12 0 0 rfl rfl (v := .ref (a_t 0)) rfl dX11_slack_1 ?_
  refine lv_iload_n C.hx C.hb dX11_slack_4 rfl (lv_at hl 1 rfl) ?_
  obtain ⟨zr1, zq2, hf⟩ := bd_some hf
  have zm3 := c_X9_hasThing l G (a_t 0) a_t_now (hf := zq2)
  refine g_goI C h zm3.1 (is := [1]) rfl rfl (g_runV C h (is := [1]) rfl rfl (As := [.int x1]) (rest := []) (zm3.2 _) vf_X11_98 1 0 rfl rfl hl.1 rfl rfl (Nat.le_of_ble_eq_true rfl) dX11_slack_5 ⟨Nat.le_of_ble_eq_true rfl, Nat.le_of_ble_eq_true rfl⟩ ⟨Nat.le_refl _, Nat.le_refl _⟩) (us2 := [uX11 G o_t a_t v_t, uX9 G (a_t 0) a_t_now v_t_now, uX6 G (a_t 11) a_t_search v_t_search, uX2 G (a_t_search 0) a_t_search_kinds]) rfl (fun H locs h => ?_)
  refine lv_if_ne (tgt := 18) C.hx C.hb dX11_slack_8 (by decide) (fun zc4 => ?_) (fun zc4 => ?_)
  · replace hf := it_f zc4 hf
    refine lv_aload_n C.hx C.hb dX11_slack_18 rfl (lv_at hl 0 rfl) ?_
    refine g_get C h fl_X11_68 0 0 rfl rfl (v := .ref (a_t 11)) rfl dX11_slack_19 ?_
    refine lv_aload_n C.hx C.hb dX11_slack_22 rfl (lv_at hl 0 rfl) ?_
    refine g_get C h fl_X11_12 0 0 rfl rfl (v := .ref (a_t 0)) rfl dX11_slack_23 ?_
    obtain ⟨zr5, zq6, hf⟩ := bd_some hf
    have zm7 := c_X6_learn l G (a_t 11) (a_t 0) a_t_now a_t_search a_t_search_kinds N (hf := zq6)
    refine g_goV C h zm7.1 (is := [2, 1, 3]) rfl rfl (g_runV C h (is := [2, 1, 3]) rfl rfl (As := [.ref (a_t 0)]) (rest := []) (zm7.2 _) vf_X11_214 2 0 rfl rfl hl.1 rfl rfl (Nat.le_of_ble_eq_true rfl) dX11_slack_26 ⟨Nat.le_of_ble_eq_true rfl, Nat.le_of_ble_eq_true rfl⟩ ⟨Nat.le_refl _, Nat.le_refl _⟩) (us2 := [uX11 G o_t a_t v_t, uX9 G (a_t 0) a_t_now v_t_now, uX6 G (a_t 11) a_t_search zr5, uX2 G (a_t_search 0) a_t_search_kinds]) rfl (fun H locs h => ?_)
    refine lv_aload_n C.hx C.hb dX11_slack_29 rfl (lv_at hl 0 rfl) ?_
    refine g_get C h fl_X11_68 0 0 rfl rfl (v := .ref (a_t 11)) rfl dX11_slack_30 ?_
    refine lv_iconst (v := 0) C.hx C.hb dX11_slack_33 (by decide) ?_
    obtain ⟨zr8, zq9, hf⟩ := bd_some hf
    have zm10 := c_X6_fitsWithout l G (a_t 11) a_t_search N (hf := zq9)
    refine g_goI C h zm10.1 (is := [2]) rfl rfl (g_runV C h (is := [2]) rfl rfl (As := [.int 0]) (rest := []) (zm10.2 _) vf_X11_217 2 0 rfl rfl hl.1 rfl rfl (Nat.le_of_ble_eq_true rfl) dX11_slack_34 ⟨Nat.le_of_ble_eq_true rfl, Nat.le_of_ble_eq_true rfl⟩ ⟨Nat.le_refl _, Nat.le_refl _⟩) (us2 := [uX11 G o_t a_t v_t, uX9 G (a_t 0) a_t_now v_t_now, uX6 G (a_t 11) a_t_search zr8.2, uX2 G (a_t_search 0) a_t_search_kinds]) rfl (fun H locs h => ?_)
    refine lv_if_eq (tgt := 52) C.hx C.hb dX11_slack_37 (by decide) (fun zc11 => ?_) (fun zc11 => ?_)
    · replace hf := it_t zc11 hf
      refine lv_iconst (v := (-1)) C.hx C.hb dX11_slack_52 (by decide) ?_
      obtain rfl := Option.some.inj hf
      exact g_ret_i C h rfl rfl dX11_slack_53
    · replace hf := it_f zc11 hf
      refine lv_aload_n C.hx C.hb dX11_slack_40 rfl (lv_at hl 0 rfl) ?_
      refine g_get C h fl_X11_68 0 0 rfl rfl (v := .ref (a_t 11)) rfl dX11_slack_41 ?_
      refine g_get C h fl_X11_220 2 0 rfl rfl (v := .ref (a_t_search 8)) rfl dX11_slack_44 ?_
      refine lv_iload_n C.hx C.hb dX11_slack_47 rfl (lv_at hl 1 rfl) ?_
      obtain ⟨zi12, hf⟩ := ck_some hf
      refine g_iald C h 2 6 rfl rfl (f := zr8.2.2.2 8) zi12 dX11_slack_48 ?_
      refine lv_goto (tgt := 53) C.hx C.hb dX11_slack_49 (by decide) ?_
      obtain rfl := Option.some.inj hf
      exact g_ret_i C h rfl rfl dX11_slack_53
  · replace hf := it_t zc4 hf
    refine lv_aload_n C.hx C.hb dX11_slack_11 rfl (lv_at hl 0 rfl) ?_
    refine lv_bipush (v := (-10)) C.hx C.hb dX11_slack_12 (by decide) ?_
    obtain ⟨zr13, zq14, hf⟩ := bd_some hf
    have zm15 := c_X11_bad l G o_t a_t (hf := zq14)
    refine g_goI C h zm15.1 (is := [0]) rfl rfl (g_runV C h (is := [0]) rfl rfl (As := [.int (-10)]) (rest := []) (zm15.2 _) vf_X11_83 0 0 rfl rfl hl.1 rfl rfl (Nat.le_of_ble_eq_true rfl) dX11_slack_14 ⟨Nat.le_of_ble_eq_true rfl, Nat.le_of_ble_eq_true rfl⟩ ⟨Nat.le_refl _, Nat.le_refl _⟩) (us2 := [uX11 G o_t a_t zr13.2, uX9 G (a_t 0) a_t_now v_t_now, uX6 G (a_t 11) a_t_search v_t_search, uX2 G (a_t_search 0) a_t_search_kinds]) rfl (fun H locs h => ?_)
    obtain rfl := Option.some.inj hf
    exact g_ret_i C h rfl rfl dX11_slack_17

def f_X11_status (v_t : US) (x1 : Int32) : Option (Int32 × US) :=
  if x1 = 0 then (some (v_t.1 6, v_t)) else (if x1 = 1 then (some (v_t.1 7, v_t)) else (if x1 = 2 then (some (v_t.1 8, v_t)) else ((f_X11_bad v_t (-1)).bind fun zr4 => some (zr4.1, zr4.2))))
set_option maxRecDepth 100000 in
set_option maxHeartbeats 4000000 in
theorem c_X11_status (l : Launch) (G : GG) (o_t : Nat) (a_t : Nat → Nat) {v_t : US} {x1 : Int32} {res : Int32 × US} (hf : f_X11_status v_t x1 = some res) : MI l yX11_status cX11_status 2 (some .int) 2 [.ref o_t, .int x1] G [uX11 G o_t a_t v_t] res.1 [uX11 G o_t a_t res.2] := by
  unfold f_X11_status at hf
  refine MI.intro (by decide) rfl (Nat.le_of_ble_eq_true rfl) (fun p e s m args below meth c A ls C h hl => ?_)
  have C : MC RX11 cX11_status 2 (some .int) G A p s m args meth c := C
  have hl : lv_has ls 2 [(0, .ref o_t), (1, .int x1)] := hl
  refine lv_iload_n C.hx C.hb dX11_status_0 rfl (lv_at hl 1 rfl) ?_
  by_cases zc1 : x1 = 0
  · replace hf := it_t zc1 hf
    refine lv_tableIn (tgt := 28) (off := 27) C.hx C.hb dX11_status_1 (by rw [zc1]; decide) (by rw [zc1]; decide) (by rw [zc1]; rfl) (by decide) ?_
    refine lv_aload_n C.hx C.hb dX11_status_28 rfl (lv_at hl 0 rfl) ?_
    refine g_get C h fl_X11_35 0 0 rfl rfl (v := .int (v_t.1 6)) rfl dX11_status_29 ?_
    obtain rfl := Option.some.inj hf
    exact g_ret_i C h rfl rfl dX11_status_32
  replace hf := it_f zc1 hf
  by_cases zc2 : x1 = 1
  · replace hf := it_t zc2 hf
    refine lv_tableIn (tgt := 33) (off := 32) C.hx C.hb dX11_status_1 (by rw [zc2]; decide) (by rw [zc2]; decide) (by rw [zc2]; rfl) (by decide) ?_
    refine lv_aload_n C.hx C.hb dX11_status_33 rfl (lv_at hl 0 rfl) ?_
    refine g_get C h fl_X11_38 0 0 rfl rfl (v := .int (v_t.1 7)) rfl dX11_status_34 ?_
    obtain rfl := Option.some.inj hf
    exact g_ret_i C h rfl rfl dX11_status_37
  replace hf := it_f zc2 hf
  by_cases zc3 : x1 = 2
  · replace hf := it_t zc3 hf
    refine lv_tableIn (tgt := 38) (off := 37) C.hx C.hb dX11_status_1 (by rw [zc3]; decide) (by rw [zc3]; decide) (by rw [zc3]; rfl) (by decide) ?_
    refine lv_aload_n C.hx C.hb dX11_status_38 rfl (lv_at hl 0 rfl) ?_
    refine g_get C h fl_X11_41 0 0 rfl rfl (v := .int (v_t.1 8)) rfl dX11_status_39 ?_
    obtain rfl := Option.some.inj hf
    exact g_ret_i C h rfl rfl dX11_status_42
  replace hf := it_f zc3 hf
  refine lv_tableOut (tgt := 43) C.hx C.hb dX11_status_1 (by have ezc1 := lv_neT (a := 0) zc1 (by decide); have ezc2 := lv_neT (a := 1) zc2 (by decide); have ezc3 := lv_neT (a := 2) zc3 (by decide); omega) (by decide) ?_
  refine lv_aload_n C.hx C.hb dX11_status_43 rfl (lv_at hl 0 rfl) ?_
  refine lv_iconst (v := (-1)) C.hx C.hb dX11_status_44 (by decide) ?_
  obtain ⟨zr4, zq5, hf⟩ := bd_some hf
  have zm6 := c_X11_bad l G o_t a_t (hf := zq5)
  refine g_goI C h zm6.1 (is := [0]) rfl rfl (g_runV C h (is := [0]) rfl rfl (As := [.int (-1)]) (rest := []) (zm6.2 _) vf_X11_83 0 0 rfl rfl hl.1 rfl rfl (Nat.le_of_ble_eq_true rfl) dX11_status_45 ⟨Nat.le_of_ble_eq_true rfl, Nat.le_of_ble_eq_true rfl⟩ ⟨Nat.le_refl _, Nat.le_refl _⟩) (us2 := [uX11 G o_t a_t zr4.2]) rfl (fun H locs h => ?_)
  obtain rfl := Option.some.inj hf
  exact g_ret_i C h rfl rfl dX11_status_48

def b_X11_thing_45  (v_t : US) (v_t_now : US) (y1 : Int32) (y2 : Int32) (y3 : Int32) (y4 : Int32) (s0 : Int32) : Option (Int32 × US × US) :=
  if s0 = 0 then ((f_X11_bad v_t (-2)).bind fun zr9 => some (zr9.1, zr9.2, v_t_now)) else (if (v_t_now.1 0) < 5 then ((f_X9_addThing v_t_now y1 y2 y3 y4).bind fun zr3 => some ((zr3.1 0) - 1, v_t, zr3)) else ((f_X11_tooMany v_t).bind fun zr6 => some (zr6.1, zr6.2, v_t_now)))
def b_X11_thing_44  (v_t : US) (v_t_now : US) (y1 : Int32) (y2 : Int32) (y3 : Int32) (y4 : Int32) : Option (Int32 × US × US) :=
  b_X11_thing_45 v_t v_t_now y1 y2 y3 y4 0
def f_X11_thing (v_t : US) (v_t_now : US) (x1 : Int32) (x2 : Int32) (x3 : Int32) (x4 : Int32) : Option (Int32 × US × US) :=
  (f_X11_within x1 0 4).bind fun zr1 => if (b2i zr1) = 0 then (b_X11_thing_44 v_t v_t_now x1 x2 x3 x4) else ((f_X11_within x2 0 9).bind fun zr5 => if (b2i zr5) = 0 then (b_X11_thing_44 v_t v_t_now x1 x2 x3 x4) else ((f_X11_within x3 1 9).bind fun zr9 => if (b2i zr9) = 0 then (b_X11_thing_44 v_t v_t_now x1 x2 x3 x4) else ((f_X11_within x4 0 9).bind fun zr13 => if (b2i zr13) = 0 then (b_X11_thing_44 v_t v_t_now x1 x2 x3 x4) else (b_X11_thing_45 v_t v_t_now x1 x2 x3 x4 1))))
set_option maxRecDepth 100000 in
set_option maxHeartbeats 4000000 in
theorem w_X11_thing_45 {p : Program} {l : Launch} {e : Env} {s : State} {m : MethodId} {args : Array Value} {below : List Frame} {meth : Method} {c : Code} {G : GG} {A : Nat → Prop} {o_t : Nat} {a_t a_t_now : Nat → Nat}  {v_t : US} {v_t_now : US} {y1 : Int32} {y2 : Int32} {y3 : Int32} {y4 : Int32} {s0 : Int32} {res : Int32 × US × US} (C : MC RX11 cX11_thing 6 (some .int) G A p s m args meth c)  (hf : b_X11_thing_45 v_t v_t_now y1 y2 y3 y4 s0 = some res) {H : Heap} {locs : List Loc} {ls : Array Slot} (h : HP G A s [uX11 G o_t a_t v_t, uX9 G (a_t 0) a_t_now v_t_now] H locs) (hl : lv_has ls 6 [(0, .ref o_t), (1, .int y1), (2, .int y2), (3, .int y3), (4, .int y4)]) : W p l e (rmm 2) s m args below meth c H locs 0 0 (QI below G A args s res.1 [uX11 G o_t a_t res.2.1, uX9 G (a_t 0) a_t_now res.2.2]) (F0 m 45 ls [.int s0]) := by
  unfold b_X11_thing_45 at hf
  refine lv_istore (lv' := [(5, .int s0), (0, .ref o_t), (1, .int y1), (2, .int y2), (3, .int y3), (4, .int y4)]) C.hx C.hb dX11_thing_45 hl (by decide) rfl (fun ls hl => ?_)
  refine lv_iload C.hx C.hb dX11_thing_47 (lv_at hl 0 rfl) ?_
  refine lv_if_ne (tgt := 59) C.hx C.hb dX11_thing_49 (by decide) (fun zc1 => ?_) (fun zc1 => ?_)
  · replace hf := it_f zc1 hf
    refine lv_aload_n C.hx C.hb dX11_thing_59 rfl (lv_at hl 1 rfl) ?_
    refine g_get C h fl_X11_12 0 0 rfl rfl (v := .ref (a_t 0)) rfl dX11_thing_60 ?_
    refine g_get C h fl_X11_87 1 0 rfl rfl (v := .int (v_t_now.1 0)) rfl dX11_thing_63 ?_
    refine lv_iconst (v := 5) C.hx C.hb dX11_thing_66 (by decide) ?_
    refine lv_icmp_lt (tgt := 75) C.hx C.hb dX11_thing_67 (by decide) (fun zc2 => ?_) (fun zc2 => ?_)
    · replace hf := it_t zc2 hf
      refine lv_aload_n C.hx C.hb dX11_thing_75 rfl (lv_at hl 1 rfl) ?_
      refine g_get C h fl_X11_12 0 0 rfl rfl (v := .ref (a_t 0)) rfl dX11_thing_76 ?_
      refine lv_iload_n C.hx C.hb dX11_thing_79 rfl (lv_at hl 2 rfl) ?_
      refine lv_iload_n C.hx C.hb dX11_thing_80 rfl (lv_at hl 3 rfl) ?_
      refine lv_iload_n C.hx C.hb dX11_thing_81 rfl (lv_at hl 4 rfl) ?_
      refine lv_iload C.hx C.hb dX11_thing_82 (lv_at hl 5 rfl) ?_
      obtain ⟨zr3, zq4, hf⟩ := bd_some hf
      have zm5 := c_X9_addThing l G (a_t 0) a_t_now (hf := zq4)
      refine g_goV C h zm5.1 (is := [1]) rfl rfl (g_runV C h (is := [1]) rfl rfl (As := [.int y1, .int y2, .int y3, .int y4]) (rest := []) (zm5.2 _) vf_X11_94 1 0 rfl rfl hl.1 rfl rfl (Nat.le_of_ble_eq_true rfl) dX11_thing_84 ⟨Nat.le_of_ble_eq_true rfl, Nat.le_of_ble_eq_true rfl⟩ ⟨Nat.le_refl _, Nat.le_refl _⟩) (us2 := [uX11 G o_t a_t v_t, uX9 G (a_t 0) a_t_now zr3]) rfl (fun H locs h => ?_)
      refine lv_aload_n C.hx C.hb dX11_thing_87 rfl (lv_at hl 1 rfl) ?_
      refine g_get C h fl_X11_12 0 0 rfl rfl (v := .ref (a_t 0)) rfl dX11_thing_88 ?_
      refine g_get C h fl_X11_87 1 0 rfl rfl (v := .int (zr3.1 0)) rfl dX11_thing_91 ?_
      refine lv_iconst (v := 1) C.hx C.hb dX11_thing_94 (by decide) ?_
      refine lv_isub C.hx C.hb dX11_thing_95 ?_
      obtain rfl := Option.some.inj hf
      exact g_ret_i C h rfl rfl dX11_thing_96
    · replace hf := it_f zc2 hf
      refine lv_aload_n C.hx C.hb dX11_thing_70 rfl (lv_at hl 1 rfl) ?_
      obtain ⟨zr6, zq7, hf⟩ := bd_some hf
      have zm8 := c_X11_tooMany l G o_t a_t (hf := zq7)
      refine g_goI C h zm8.1 (is := [0]) rfl rfl (g_runV C h (is := [0]) rfl rfl (As := []) (rest := []) (zm8.2 _) vf_X11_90 0 0 rfl rfl hl.1 rfl rfl (Nat.le_of_ble_eq_true rfl) dX11_thing_71 ⟨Nat.le_of_ble_eq_true rfl, Nat.le_of_ble_eq_true rfl⟩ ⟨Nat.le_refl _, Nat.le_refl _⟩) (us2 := [uX11 G o_t a_t zr6.2, uX9 G (a_t 0) a_t_now v_t_now]) rfl (fun H locs h => ?_)
      obtain rfl := Option.some.inj hf
      exact g_ret_i C h rfl rfl dX11_thing_74
  · replace hf := it_t zc1 hf
    refine lv_aload_n C.hx C.hb dX11_thing_52 rfl (lv_at hl 1 rfl) ?_
    refine lv_bipush (v := (-2)) C.hx C.hb dX11_thing_53 (by decide) ?_
    obtain ⟨zr9, zq10, hf⟩ := bd_some hf
    have zm11 := c_X11_bad l G o_t a_t (hf := zq10)
    refine g_goI C h zm11.1 (is := [0]) rfl rfl (g_runV C h (is := [0]) rfl rfl (As := [.int (-2)]) (rest := []) (zm11.2 _) vf_X11_83 0 0 rfl rfl hl.1 rfl rfl (Nat.le_of_ble_eq_true rfl) dX11_thing_55 ⟨Nat.le_of_ble_eq_true rfl, Nat.le_of_ble_eq_true rfl⟩ ⟨Nat.le_refl _, Nat.le_refl _⟩) (us2 := [uX11 G o_t a_t zr9.2, uX9 G (a_t 0) a_t_now v_t_now]) rfl (fun H locs h => ?_)
    obtain rfl := Option.some.inj hf
    exact g_ret_i C h rfl rfl dX11_thing_58
set_option maxRecDepth 100000 in
set_option maxHeartbeats 4000000 in
theorem w_X11_thing_44 {p : Program} {l : Launch} {e : Env} {s : State} {m : MethodId} {args : Array Value} {below : List Frame} {meth : Method} {c : Code} {G : GG} {A : Nat → Prop} {o_t : Nat} {a_t a_t_now : Nat → Nat}  {v_t : US} {v_t_now : US} {y1 : Int32} {y2 : Int32} {y3 : Int32} {y4 : Int32} {res : Int32 × US × US} (C : MC RX11 cX11_thing 6 (some .int) G A p s m args meth c)  (hf : b_X11_thing_44 v_t v_t_now y1 y2 y3 y4 = some res) {H : Heap} {locs : List Loc} {ls : Array Slot} (h : HP G A s [uX11 G o_t a_t v_t, uX9 G (a_t 0) a_t_now v_t_now] H locs) (hl : lv_has ls 6 [(0, .ref o_t), (1, .int y1), (2, .int y2), (3, .int y3), (4, .int y4)]) : W p l e (rmm 2) s m args below meth c H locs 0 0 (QI below G A args s res.1 [uX11 G o_t a_t res.2.1, uX9 G (a_t 0) a_t_now res.2.2]) (F0 m 44 ls []) := by
  unfold b_X11_thing_44 at hf
  refine lv_iconst (v := 0) C.hx C.hb dX11_thing_44 (by decide) ?_
  exact w_X11_thing_45 C  hf h (lv_sub hl [0, 1, 2, 3, 4] rfl)
set_option maxRecDepth 100000 in
set_option maxHeartbeats 4000000 in
theorem c_X11_thing (l : Launch) (G : GG) (o_t : Nat) (a_t a_t_now : Nat → Nat) {v_t : US} {v_t_now : US} {x1 : Int32} {x2 : Int32} {x3 : Int32} {x4 : Int32} {res : Int32 × US × US} (hf : f_X11_thing v_t v_t_now x1 x2 x3 x4 = some res) : MI l yX11_thing cX11_thing 6 (some .int) 2 [.ref o_t, .int x1, .int x2, .int x3, .int x4] G [uX11 G o_t a_t v_t, uX9 G (a_t 0) a_t_now v_t_now] res.1 [uX11 G o_t a_t res.2.1, uX9 G (a_t 0) a_t_now res.2.2] := by
  unfold f_X11_thing at hf
  refine MI.intro (by decide) rfl (Nat.le_of_ble_eq_true rfl) (fun p e s m args below meth c A ls C h hl => ?_)
  have C : MC RX11 cX11_thing 6 (some .int) G A p s m args meth c := C
  have hl : lv_has ls 6 [(0, .ref o_t), (1, .int x1), (2, .int x2), (3, .int x3), (4, .int x4)] := hl
  refine lv_iload_n C.hx C.hb dX11_thing_0 rfl (lv_at hl 1 rfl) ?_
  refine lv_iconst (v := 0) C.hx C.hb dX11_thing_1 (by decide) ?_
  refine lv_iconst (v := 4) C.hx C.hb dX11_thing_2 (by decide) ?_
  obtain ⟨zr1, zq2, hf⟩ := bd_some hf
  have zm3 := c_X11_within l G  (hf := zq2)
  refine g_goI C h zm3.1 (is := []) rfl rfl (g_runS C h (is := []) rfl rfl (As := [.int x1, .int 0, .int 4]) (rest := []) (zm3.2 _) sf_X11_79 hl.1 rfl rfl (Nat.le_of_ble_eq_true rfl) dX11_thing_3 ⟨Nat.le_of_ble_eq_true rfl, Nat.le_of_ble_eq_true rfl⟩ ⟨Nat.le_refl _, Nat.le_refl _⟩) (us2 := [uX11 G o_t a_t v_t, uX9 G (a_t 0) a_t_now v_t_now]) rfl (fun H locs h => ?_)
  refine lv_if_eq (tgt := 44) C.hx C.hb dX11_thing_6 (by decide) (fun zc4 => ?_) (fun zc4 => ?_)
  · replace hf := it_t zc4 hf
    exact w_X11_thing_44 C  hf h (lv_sub hl [0, 1, 2, 3, 4] rfl)
  · replace hf := it_f zc4 hf
    refine lv_iload_n C.hx C.hb dX11_thing_9 rfl (lv_at hl 2 rfl) ?_
    refine lv_iconst (v := 0) C.hx C.hb dX11_thing_10 (by decide) ?_
    refine lv_bipush (v := 9) C.hx C.hb dX11_thing_11 (by decide) ?_
    obtain ⟨zr5, zq6, hf⟩ := bd_some hf
    have zm7 := c_X11_within l G  (hf := zq6)
    refine g_goI C h zm7.1 (is := []) rfl rfl (g_runS C h (is := []) rfl rfl (As := [.int x2, .int 0, .int 9]) (rest := []) (zm7.2 _) sf_X11_79 hl.1 rfl rfl (Nat.le_of_ble_eq_true rfl) dX11_thing_13 ⟨Nat.le_of_ble_eq_true rfl, Nat.le_of_ble_eq_true rfl⟩ ⟨Nat.le_refl _, Nat.le_refl _⟩) (us2 := [uX11 G o_t a_t v_t, uX9 G (a_t 0) a_t_now v_t_now]) rfl (fun H locs h => ?_)
    refine lv_if_eq (tgt := 44) C.hx C.hb dX11_thing_16 (by decide) (fun zc8 => ?_) (fun zc8 => ?_)
    · replace hf := it_t zc8 hf
      exact w_X11_thing_44 C  hf h (lv_sub hl [0, 1, 2, 3, 4] rfl)
    · replace hf := it_f zc8 hf
      refine lv_iload_n C.hx C.hb dX11_thing_19 rfl (lv_at hl 3 rfl) ?_
      refine lv_iconst (v := 1) C.hx C.hb dX11_thing_20 (by decide) ?_
      refine lv_bipush (v := 9) C.hx C.hb dX11_thing_21 (by decide) ?_
      obtain ⟨zr9, zq10, hf⟩ := bd_some hf
      have zm11 := c_X11_within l G  (hf := zq10)
      refine g_goI C h zm11.1 (is := []) rfl rfl (g_runS C h (is := []) rfl rfl (As := [.int x3, .int 1, .int 9]) (rest := []) (zm11.2 _) sf_X11_79 hl.1 rfl rfl (Nat.le_of_ble_eq_true rfl) dX11_thing_23 ⟨Nat.le_of_ble_eq_true rfl, Nat.le_of_ble_eq_true rfl⟩ ⟨Nat.le_refl _, Nat.le_refl _⟩) (us2 := [uX11 G o_t a_t v_t, uX9 G (a_t 0) a_t_now v_t_now]) rfl (fun H locs h => ?_)
      refine lv_if_eq (tgt := 44) C.hx C.hb dX11_thing_26 (by decide) (fun zc12 => ?_) (fun zc12 => ?_)
      · replace hf := it_t zc12 hf
        exact w_X11_thing_44 C  hf h (lv_sub hl [0, 1, 2, 3, 4] rfl)
      · replace hf := it_f zc12 hf
        refine lv_iload C.hx C.hb dX11_thing_29 (lv_at hl 4 rfl) ?_
        refine lv_iconst (v := 0) C.hx C.hb dX11_thing_31 (by decide) ?_
        refine lv_bipush (v := 9) C.hx C.hb dX11_thing_32 (by decide) ?_
        obtain ⟨zr13, zq14, hf⟩ := bd_some hf
        have zm15 := c_X11_within l G  (hf := zq14)
        refine g_goI C h zm15.1 (is := []) rfl rfl (g_runS C h (is := []) rfl rfl (As := [.int x4, .int 0, .int 9]) (rest := []) (zm15.2 _) sf_X11_79 hl.1 rfl rfl (Nat.le_of_ble_eq_true rfl) dX11_thing_34 ⟨Nat.le_of_ble_eq_true rfl, Nat.le_of_ble_eq_true rfl⟩ ⟨Nat.le_refl _, Nat.le_refl _⟩) (us2 := [uX11 G o_t a_t v_t, uX9 G (a_t 0) a_t_now v_t_now]) rfl (fun H locs h => ?_)
        refine lv_if_eq (tgt := 44) C.hx C.hb dX11_thing_37 (by decide) (fun zc16 => ?_) (fun zc16 => ?_)
        · replace hf := it_t zc16 hf
          exact w_X11_thing_44 C  hf h (lv_sub hl [0, 1, 2, 3, 4] rfl)
        · replace hf := it_f zc16 hf
          refine lv_iconst (v := 1) C.hx C.hb dX11_thing_40 (by decide) ?_
          refine lv_goto (tgt := 45) C.hx C.hb dX11_thing_41 (by decide) ?_
          exact w_X11_thing_45 C  hf h (lv_sub hl [0, 1, 2, 3, 4] rfl)

def b_X11_type_42 (N : Nat) (g42 : US → (Nat → Int32) → Int64 → Int32 → (Option (Int32 × US × (Nat → Int32)))) (v_t : US) (v_t_text : Nat → Int32) (y1 : Int64) (y4 : Int32) : Option (Int32 × US × (Nat → Int32)) :=
  if y4 < 0 then (some (v_t.1 3, v_t, v_t_text)) else (if (v_t.1 3) < 0 ∨ 200 ≤ (v_t.1 3).toNatClampNeg then none else (g42 (upi v_t 3 ((v_t.1 3) + 1)) (upd v_t_text (v_t.1 3).toNatClampNeg ((((y1.toUInt64 >>> (y4.toInt64.toUInt64 &&& Int64.toUInt64 63)).toInt64).toInt32) &&& 255)) y1 (y4 + (-8))))
def f_X11_type_42 (N : Nat)  : Nat → US → (Nat → Int32) → Int64 → Int32 → (Option (Int32 × US × (Nat → Int32)))
  | 0 => fun _ _ _ _ => none
  | k + 1 => fun q0 q1 q2 q3 => b_X11_type_42 N  (f_X11_type_42 N  k) q0 q1 q2 q3
def f_X11_type (N : Nat) (v_t : US) (v_t_text : Nat → Int32) (x1 : Int64) (x3 : Int32) : Option (Int32 × US × (Nat → Int32)) :=
  (f_X11_within x3 1 8).bind fun zr1 => if (b2i zr1) = 0 then ((f_X11_bad v_t (-2)).bind fun zr9 => some (zr9.1, zr9.2, v_t_text)) else (if ((v_t.1 3) + x3) ≤ 200 then (f_X11_type_42 N N v_t v_t_text x1 (8 * (x3 - 1))) else ((f_X11_tooMany v_t).bind fun zr6 => some (zr6.1, zr6.2, v_t_text)))
set_option maxRecDepth 100000 in
set_option maxHeartbeats 4000000 in
theorem w_X11_type_42 {p : Program} {l : Launch} {e : Env} {s : State} {m : MethodId} {args : Array Value} {below : List Frame} {meth : Method} {c : Code} {G : GG} {A : Nat → Prop} {o_t : Nat} {a_t : Nat → Nat} {N : Nat} {g42 : US → (Nat → Int32) → Int64 → Int32 → (Option (Int32 × US × (Nat → Int32)))} {v_t : US} {v_t_text : Nat → Int32} {y1 : Int64} {y4 : Int32} {res : Int32 × US × (Nat → Int32)} (C : MC RX11 cX11_type 5 (some .int) G A p s m args meth c) (hg42 : ∀ {v_t : US} {v_t_text : Nat → Int32} {y1 : Int64} {y4 : Int32}, g42 v_t v_t_text y1 y4 = some res → ∀ {H : Heap} {locs : List Loc} {ls : Array Slot}, HP G A s [uX11 G o_t a_t v_t, uA G 200 (a_t 2) v_t_text] H locs → lv_has ls 5 [(0, .ref o_t), (1, .long y1), (4, .int y4)] → W p l e (rmm 2) s m args below meth c H locs 0 0 (QI below G A args s res.1 [uX11 G o_t a_t res.2.1, uA G 200 (a_t 2) res.2.2]) (F0 m 42 ls [])) (hf : b_X11_type_42 N g42 v_t v_t_text y1 y4 = some res) {H : Heap} {locs : List Loc} {ls : Array Slot} (h : HP G A s [uX11 G o_t a_t v_t, uA G 200 (a_t 2) v_t_text] H locs) (hl : lv_has ls 5 [(0, .ref o_t), (1, .long y1), (4, .int y4)]) : W p l e (rmm 2) s m args below meth c H locs 0 0 (QI below G A args s res.1 [uX11 G o_t a_t res.2.1, uA G 200 (a_t 2) res.2.2]) (F0 m 42 ls []) := by
  unfold b_X11_type_42 at hf
  refine lv_iload C.hx C.hb dX11_type_42 (lv_at hl 2 rfl) ?_
  refine lv_if_lt (tgt := 81) C.hx C.hb dX11_type_44 (by decide) (fun zc1 => ?_) (fun zc1 => ?_)
  · replace hf := it_t zc1 hf
    refine lv_aload_n C.hx C.hb dX11_type_81 rfl (lv_at hl 0 rfl) ?_
    refine g_get C h fl_X11_24 0 0 rfl rfl (v := .int (v_t.1 3)) rfl dX11_type_82 ?_
    obtain rfl := Option.some.inj hf
    exact g_ret_i C h rfl rfl dX11_type_85
  · replace hf := it_f zc1 hf
    refine lv_aload_n C.hx C.hb dX11_type_47 rfl (lv_at hl 0 rfl) ?_
    refine g_get C h fl_X11_20 0 0 rfl rfl (v := .ref (a_t 2)) rfl dX11_type_48 ?_
    refine lv_aload_n C.hx C.hb dX11_type_51 rfl (lv_at hl 0 rfl) ?_
    refine g_get C h fl_X11_24 0 0 rfl rfl (v := .int (v_t.1 3)) rfl dX11_type_52 ?_
    refine lv_lload_n C.hx C.hb dX11_type_55 rfl (lv_at hl 1 rfl) ?_
    refine lv_iload C.hx C.hb dX11_type_56 (lv_at hl 2 rfl) ?_
    refine lv_lushr C.hx C.hb dX11_type_58 rfl ?_
    refine lv_l2i C.hx C.hb dX11_type_59 rfl ?_
    refine lv_sipush (v := 255) C.hx C.hb dX11_type_60 (by decide) ?_
    refine lv_iand C.hx C.hb dX11_type_63 ?_
    obtain ⟨zi2, hf⟩ := ck_some hf
    refine g_iast C h 1 0 rfl rfl (f := v_t_text) zi2 dX11_type_64 (u' := uA G 200 (a_t 2) (upd v_t_text (v_t.1 3).toNatClampNeg ((((y1.toUInt64 >>> (y4.toInt64.toUInt64 &&& Int64.toUInt64 63)).toInt64).toInt32) &&& 255))) (us' := [uX11 G o_t a_t v_t, uA G 200 (a_t 2) (upd v_t_text (v_t.1 3).toNatClampNeg ((((y1.toUInt64 >>> (y4.toInt64.toUInt64 &&& Int64.toUInt64 63)).toInt64).toInt32) &&& 255))]) rfl rfl (fun H locs h => ?_)
    refine lv_aload_n C.hx C.hb dX11_type_65 rfl (lv_at hl 0 rfl) ?_
    refine lv_dup C.hx C.hb dX11_type_66 rfl ?_
    refine g_get C h fl_X11_24 0 0 rfl rfl (v := .int (v_t.1 3)) rfl dX11_type_67 ?_
    refine lv_iconst (v := 1) C.hx C.hb dX11_type_70 (by decide) ?_
    refine lv_iadd C.hx C.hb dX11_type_71 ?_
    refine g_put C h fp_X11_24 0 0 rfl rfl rfl rfl (Nat.le_of_ble_eq_true rfl) dX11_type_72 (u' := uX11 G o_t a_t (upi v_t 3 ((v_t.1 3) + 1))) (us' := [uX11 G o_t a_t (upi v_t 3 ((v_t.1 3) + 1)), uA G 200 (a_t 2) (upd v_t_text (v_t.1 3).toNatClampNeg ((((y1.toUInt64 >>> (y4.toInt64.toUInt64 &&& Int64.toUInt64 63)).toInt64).toInt32) &&& 255))]) rfl rfl (fun H locs h => ?_)
    refine lv_iinc (v := y4 + (-8)) (lv' := [(4, .int (y4 + (-8))), (0, .ref o_t), (1, .long y1)]) C.hx C.hb dX11_type_75 hl (k := 2) rfl rfl (by decide) rfl (fun ls hl => ?_)
    refine lv_goto (tgt := 42) C.hx C.hb dX11_type_78 (by decide) ?_
    exact hg42 hf h (lv_sub hl [1, 2, 0] rfl)
set_option maxRecDepth 100000 in
set_option maxHeartbeats 4000000 in
theorem l_X11_type_42 {p : Program} {l : Launch} {e : Env} {s : State} {m : MethodId} {args : Array Value} {below : List Frame} {meth : Method} {c : Code} {G : GG} {A : Nat → Prop} {o_t : Nat} {a_t : Nat → Nat} {N : Nat}  {res : Int32 × US × (Nat → Int32)} (C : MC RX11 cX11_type 5 (some .int) G A p s m args meth c)  : ∀ (k : Nat) {v_t : US} {v_t_text : Nat → Int32} {y1 : Int64} {y4 : Int32}, f_X11_type_42 N k v_t v_t_text y1 y4 = some res → ∀ {H : Heap} {locs : List Loc} {ls : Array Slot}, HP G A s [uX11 G o_t a_t v_t, uA G 200 (a_t 2) v_t_text] H locs → lv_has ls 5 [(0, .ref o_t), (1, .long y1), (4, .int y4)] → W p l e (rmm 2) s m args below meth c H locs 0 0 (QI below G A args s res.1 [uX11 G o_t a_t res.2.1, uA G 200 (a_t 2) res.2.2]) (F0 m 42 ls []) := by
  intro k
  induction k with
  | zero => intros; contradiction
  | succ k ih =>
    intro v_t v_t_text y1 y4 hf H locs ls h hl
    exact w_X11_type_42 (N := N) C ih hf h hl
set_option maxRecDepth 100000 in
set_option maxHeartbeats 4000000 in
theorem c_X11_type (l : Launch) (G : GG) (o_t : Nat) (a_t : Nat → Nat) (N : Nat) {v_t : US} {v_t_text : Nat → Int32} {x1 : Int64} {x3 : Int32} {res : Int32 × US × (Nat → Int32)} (hf : f_X11_type N v_t v_t_text x1 x3 = some res) : MI l yX11_type cX11_type 5 (some .int) 2 [.ref o_t, .long x1, .int x3] G [uX11 G o_t a_t v_t, uA G 200 (a_t 2) v_t_text] res.1 [uX11 G o_t a_t res.2.1, uA G 200 (a_t 2) res.2.2] := by
  unfold f_X11_type at hf
  refine MI.intro (by decide) rfl (Nat.le_of_ble_eq_true rfl) (fun p e s m args below meth c A ls C h hl => ?_)
  have C : MC RX11 cX11_type 5 (some .int) G A p s m args meth c := C
  have hl : lv_has ls 5 [(0, .ref o_t), (1, .long x1), (3, .int x3)] := hl
  refine lv_iload_n C.hx C.hb dX11_type_0 rfl (lv_at hl 2 rfl) ?_
  refine lv_iconst (v := 1) C.hx C.hb dX11_type_1 (by decide) ?_
  refine lv_bipush (v := 8) C.hx C.hb dX11_type_2 (by decide) ?_
  obtain ⟨zr1, zq2, hf⟩ := bd_some hf
  have zm3 := c_X11_within l G  (hf := zq2)
  refine g_goI C h zm3.1 (is := []) rfl rfl (g_runS C h (is := []) rfl rfl (As := [.int x3, .int 1, .int 8]) (rest := []) (zm3.2 _) sf_X11_79 hl.1 rfl rfl (Nat.le_of_ble_eq_true rfl) dX11_type_4 ⟨Nat.le_of_ble_eq_true rfl, Nat.le_of_ble_eq_true rfl⟩ ⟨Nat.le_refl _, Nat.le_refl _⟩) (us2 := [uX11 G o_t a_t v_t, uA G 200 (a_t 2) v_t_text]) rfl (fun H locs h => ?_)
  refine lv_if_ne (tgt := 17) C.hx C.hb dX11_type_7 (by decide) (fun zc4 => ?_) (fun zc4 => ?_)
  · replace hf := it_f zc4 hf
    refine lv_aload_n C.hx C.hb dX11_type_17 rfl (lv_at hl 0 rfl) ?_
    refine g_get C h fl_X11_24 0 0 rfl rfl (v := .int (v_t.1 3)) rfl dX11_type_18 ?_
    refine lv_iload_n C.hx C.hb dX11_type_21 rfl (lv_at hl 2 rfl) ?_
    refine lv_iadd C.hx C.hb dX11_type_22 ?_
    refine lv_sipush (v := 200) C.hx C.hb dX11_type_23 (by decide) ?_
    refine lv_icmp_le (tgt := 34) C.hx C.hb dX11_type_26 (by decide) (fun zc5 => ?_) (fun zc5 => ?_)
    · replace hf := it_t zc5 hf
      refine lv_bipush (v := 8) C.hx C.hb dX11_type_34 (by decide) ?_
      refine lv_iload_n C.hx C.hb dX11_type_36 rfl (lv_at hl 2 rfl) ?_
      refine lv_iconst (v := 1) C.hx C.hb dX11_type_37 (by decide) ?_
      refine lv_isub C.hx C.hb dX11_type_38 ?_
      refine lv_imul C.hx C.hb dX11_type_39 ?_
      refine lv_istore (lv' := [(4, .int (8 * (x3 - 1))), (0, .ref o_t), (1, .long x1), (3, .int x3)]) C.hx C.hb dX11_type_40 hl (by decide) rfl (fun ls hl => ?_)
      exact l_X11_type_42 C N hf h (lv_sub hl [1, 2, 0] rfl)
    · replace hf := it_f zc5 hf
      refine lv_aload_n C.hx C.hb dX11_type_29 rfl (lv_at hl 0 rfl) ?_
      obtain ⟨zr6, zq7, hf⟩ := bd_some hf
      have zm8 := c_X11_tooMany l G o_t a_t (hf := zq7)
      refine g_goI C h zm8.1 (is := [0]) rfl rfl (g_runV C h (is := [0]) rfl rfl (As := []) (rest := []) (zm8.2 _) vf_X11_90 0 0 rfl rfl hl.1 rfl rfl (Nat.le_of_ble_eq_true rfl) dX11_type_30 ⟨Nat.le_of_ble_eq_true rfl, Nat.le_of_ble_eq_true rfl⟩ ⟨Nat.le_refl _, Nat.le_refl _⟩) (us2 := [uX11 G o_t a_t zr6.2, uA G 200 (a_t 2) v_t_text]) rfl (fun H locs h => ?_)
      obtain rfl := Option.some.inj hf
      exact g_ret_i C h rfl rfl dX11_type_33
  · replace hf := it_t zc4 hf
    refine lv_aload_n C.hx C.hb dX11_type_10 rfl (lv_at hl 0 rfl) ?_
    refine lv_bipush (v := (-2)) C.hx C.hb dX11_type_11 (by decide) ?_
    obtain ⟨zr9, zq10, hf⟩ := bd_some hf
    have zm11 := c_X11_bad l G o_t a_t (hf := zq10)
    refine g_goI C h zm11.1 (is := [0]) rfl rfl (g_runV C h (is := [0]) rfl rfl (As := [.int (-2)]) (rest := []) (zm11.2 _) vf_X11_83 0 0 rfl rfl hl.1 rfl rfl (Nat.le_of_ble_eq_true rfl) dX11_type_13 ⟨Nat.le_of_ble_eq_true rfl, Nat.le_of_ble_eq_true rfl⟩ ⟨Nat.le_refl _, Nat.le_refl _⟩) (us2 := [uX11 G o_t a_t zr9.2, uA G 200 (a_t 2) v_t_text]) rfl (fun H locs h => ?_)
    obtain rfl := Option.some.inj hf
    exact g_ret_i C h rfl rfl dX11_type_16

def f_X11_undo (v_t : US) (v_t_now : US)  : Option (Int32 × US × US) :=
  if 0 < (v_t_now.1 15) then ((f_X9_goBack v_t_now).bind fun zr2 => some (1, v_t, zr2)) else ((f_X11_refusedNow v_t).bind fun zr5 => some (zr5.1, zr5.2, v_t_now))
set_option maxRecDepth 100000 in
set_option maxHeartbeats 4000000 in
theorem c_X11_undo (l : Launch) (G : GG) (o_t : Nat) (a_t a_t_now : Nat → Nat) {v_t : US} {v_t_now : US}  {res : Int32 × US × US} (hf : f_X11_undo v_t v_t_now = some res) : MI l yX11_undo cX11_undo 1 (some .int) 2 [.ref o_t] G [uX11 G o_t a_t v_t, uX9 G (a_t 0) a_t_now v_t_now] res.1 [uX11 G o_t a_t res.2.1, uX9 G (a_t 0) a_t_now res.2.2] := by
  unfold f_X11_undo at hf
  refine MI.intro (by decide) rfl (Nat.le_of_ble_eq_true rfl) (fun p e s m args below meth c A ls C h hl => ?_)
  have C : MC RX11 cX11_undo 1 (some .int) G A p s m args meth c := C
  have hl : lv_has ls 1 [(0, .ref o_t)] := hl
  refine lv_aload_n C.hx C.hb dX11_undo_0 rfl (lv_at hl 0 rfl) ?_
  refine g_get C h fl_X11_12 0 0 rfl rfl (v := .ref (a_t 0)) rfl dX11_undo_1 ?_
  refine g_get C h fl_X11_152 1 0 rfl rfl (v := .int (v_t_now.1 15)) rfl dX11_undo_4 ?_
  refine lv_if_gt (tgt := 15) C.hx C.hb dX11_undo_7 (by decide) (fun zc1 => ?_) (fun zc1 => ?_)
  · replace hf := it_t zc1 hf
    refine lv_aload_n C.hx C.hb dX11_undo_15 rfl (lv_at hl 0 rfl) ?_
    refine g_get C h fl_X11_12 0 0 rfl rfl (v := .ref (a_t 0)) rfl dX11_undo_16 ?_
    obtain ⟨zr2, zq3, hf⟩ := bd_some hf
    have zm4 := c_X9_goBack l G (a_t 0) a_t_now (hf := zq3)
    refine g_goV C h zm4.1 (is := [1]) rfl rfl (g_runV C h (is := [1]) rfl rfl (As := []) (rest := []) (zm4.2 _) vf_X11_155 1 0 rfl rfl hl.1 rfl rfl (Nat.le_of_ble_eq_true rfl) dX11_undo_19 ⟨Nat.le_of_ble_eq_true rfl, Nat.le_of_ble_eq_true rfl⟩ ⟨Nat.le_refl _, Nat.le_refl _⟩) (us2 := [uX11 G o_t a_t v_t, uX9 G (a_t 0) a_t_now zr2]) rfl (fun H locs h => ?_)
    refine lv_iconst (v := 1) C.hx C.hb dX11_undo_22 (by decide) ?_
    obtain rfl := Option.some.inj hf
    exact g_ret_i C h rfl rfl dX11_undo_23
  · replace hf := it_f zc1 hf
    refine lv_aload_n C.hx C.hb dX11_undo_10 rfl (lv_at hl 0 rfl) ?_
    obtain ⟨zr5, zq6, hf⟩ := bd_some hf
    have zm7 := c_X11_refusedNow l G o_t a_t (hf := zq6)
    refine g_goI C h zm7.1 (is := [0]) rfl rfl (g_runV C h (is := [0]) rfl rfl (As := []) (rest := []) (zm7.2 _) vf_X11_109 0 0 rfl rfl hl.1 rfl rfl (Nat.le_of_ble_eq_true rfl) dX11_undo_11 ⟨Nat.le_of_ble_eq_true rfl, Nat.le_of_ble_eq_true rfl⟩ ⟨Nat.le_refl _, Nat.le_refl _⟩) (us2 := [uX11 G o_t a_t zr5.2, uX9 G (a_t 0) a_t_now v_t_now]) rfl (fun H locs h => ?_)
    obtain rfl := Option.some.inj hf
    exact g_ret_i C h rfl rfl dX11_undo_14

def b_X11_who_20 (N : Nat)  (v_t : US) (v_t_day : US) (v_t_day_swing : US) (v_t_now : US)  : Option (Int32 × US × US × US) :=
  (f_X11_bad v_t (-10)).bind fun zr1 => some (zr1.1, zr1.2, v_t_day, v_t_day_swing)
def f_X11_who (N : Nat) (v_t : US) (v_t_day : US) (v_t_day_swing : US) (v_t_now : US) (x1 : Int32) (x2 : Int32) : Option (Int32 × US × US × US) :=
  (f_X9_hasSet v_t_now x1).bind fun zr1 => if (b2i zr1) = 0 then (b_X11_who_20 N v_t v_t_day v_t_day_swing v_t_now) else ((f_X11_within x2 0 1).bind fun zr5 => if (b2i zr5) = 0 then (b_X11_who_20 N v_t v_t_day v_t_day_swing v_t_now) else ((f_X0_findEnds N v_t_day v_t_now v_t_day_swing).bind fun zr9 => if x2 = 0 then ((f_X0_howManyEndAt N zr9.1 x1).bind fun zr16 => some (zr16, v_t, zr9.1, zr9.2)) else ((f_X0_leastThatEndsAt N zr9.1 x1).bind fun zr13 => some (zr13, v_t, zr9.1, zr9.2))))
set_option maxRecDepth 100000 in
set_option maxHeartbeats 4000000 in
theorem w_X11_who_20 {p : Program} {l : Launch} {e : Env} {s : State} {m : MethodId} {args : Array Value} {below : List Frame} {meth : Method} {c : Code} {G : GG} {A : Nat → Prop} {o_t : Nat} {a_t a_t_day a_t_day_swing a_t_day_swing_kinds a_t_now : Nat → Nat} {N : Nat}  {v_t : US} {v_t_day : US} {v_t_day_swing : US} {v_t_now : US}  {res : Int32 × US × US × US} (C : MC RX11 cX11_who 3 (some .int) G A p s m args meth c)  (hf : b_X11_who_20 N v_t v_t_day v_t_day_swing v_t_now = some res) {H : Heap} {locs : List Loc} {ls : Array Slot} (h : HP G A s [uX11 G o_t a_t v_t, uX0 G (a_t 10) a_t_day v_t_day, uX8 G (a_t_day 0) a_t_day_swing v_t_day_swing, uX2 G (a_t_day_swing 0) a_t_day_swing_kinds, uX9 G (a_t 0) a_t_now v_t_now] H locs) (hl : lv_has ls 3 [(0, .ref o_t)]) : W p l e (rmm 7) s m args below meth c H locs 0 0 (QI below G A args s res.1 [uX11 G o_t a_t res.2.1, uX0 G (a_t 10) a_t_day res.2.2.1, uX8 G (a_t_day 0) a_t_day_swing res.2.2.2, uX2 G (a_t_day_swing 0) a_t_day_swing_kinds, uX9 G (a_t 0) a_t_now v_t_now]) (F0 m 20 ls []) := by
  unfold b_X11_who_20 at hf
  refine lv_aload_n C.hx C.hb dX11_who_20 rfl (lv_at hl 0 rfl) ?_
  refine lv_bipush (v := (-10)) C.hx C.hb dX11_who_21 (by decide) ?_
  obtain ⟨zr1, zq2, hf⟩ := bd_some hf
  have zm3 := c_X11_bad l G o_t a_t (hf := zq2)
  refine g_goI C h zm3.1 (is := [0]) rfl rfl (g_runV C h (is := [0]) rfl rfl (As := [.int (-10)]) (rest := []) (zm3.2 _) vf_X11_83 0 0 rfl rfl hl.1 rfl rfl (Nat.le_of_ble_eq_true rfl) dX11_who_23 ⟨Nat.le_of_ble_eq_true rfl, Nat.le_of_ble_eq_true rfl⟩ ⟨Nat.le_refl _, Nat.le_refl _⟩) (us2 := [uX11 G o_t a_t zr1.2, uX0 G (a_t 10) a_t_day v_t_day, uX8 G (a_t_day 0) a_t_day_swing v_t_day_swing, uX2 G (a_t_day_swing 0) a_t_day_swing_kinds, uX9 G (a_t 0) a_t_now v_t_now]) rfl (fun H locs h => ?_)
  obtain rfl := Option.some.inj hf
  exact g_ret_i C h rfl rfl dX11_who_26
set_option maxRecDepth 100000 in
set_option maxHeartbeats 4000000 in
theorem c_X11_who (l : Launch) (G : GG) (o_t : Nat) (a_t a_t_day a_t_day_swing a_t_day_swing_kinds a_t_now : Nat → Nat) (N : Nat) {v_t : US} {v_t_day : US} {v_t_day_swing : US} {v_t_now : US} {x1 : Int32} {x2 : Int32} {res : Int32 × US × US × US} (hf : f_X11_who N v_t v_t_day v_t_day_swing v_t_now x1 x2 = some res) : MI l yX11_who cX11_who 3 (some .int) 7 [.ref o_t, .int x1, .int x2] G [uX11 G o_t a_t v_t, uX0 G (a_t 10) a_t_day v_t_day, uX8 G (a_t_day 0) a_t_day_swing v_t_day_swing, uX2 G (a_t_day_swing 0) a_t_day_swing_kinds, uX9 G (a_t 0) a_t_now v_t_now] res.1 [uX11 G o_t a_t res.2.1, uX0 G (a_t 10) a_t_day res.2.2.1, uX8 G (a_t_day 0) a_t_day_swing res.2.2.2, uX2 G (a_t_day_swing 0) a_t_day_swing_kinds, uX9 G (a_t 0) a_t_now v_t_now] := by
  unfold f_X11_who at hf
  refine MI.intro (by decide) rfl (Nat.le_of_ble_eq_true rfl) (fun p e s m args below meth c A ls C h hl => ?_)
  have C : MC RX11 cX11_who 3 (some .int) G A p s m args meth c := C
  have hl : lv_has ls 3 [(0, .ref o_t), (1, .int x1), (2, .int x2)] := hl
  refine lv_aload_n C.hx C.hb dX11_who_0 rfl (lv_at hl 0 rfl) ?_
  refine g_get C h fl_X11_12 0 0 rfl rfl (v := .ref (a_t 0)) rfl dX11_who_1 ?_
  refine lv_iload_n C.hx C.hb dX11_who_4 rfl (lv_at hl 1 rfl) ?_
  obtain ⟨zr1, zq2, hf⟩ := bd_some hf
  have zm3 := c_X9_hasSet l G (a_t 0) a_t_now (hf := zq2)
  refine g_goI C h zm3.1 (is := [4]) rfl rfl (g_runV C h (is := [4]) rfl rfl (As := [.int x1]) (rest := []) (zm3.2 _) vf_X11_174 4 0 rfl rfl hl.1 rfl rfl (Nat.le_of_ble_eq_true rfl) dX11_who_5 ⟨Nat.le_of_ble_eq_true rfl, Nat.le_of_ble_eq_true rfl⟩ ⟨Nat.le_refl _, Nat.le_refl _⟩) (us2 := [uX11 G o_t a_t v_t, uX0 G (a_t 10) a_t_day v_t_day, uX8 G (a_t_day 0) a_t_day_swing v_t_day_swing, uX2 G (a_t_day_swing 0) a_t_day_swing_kinds, uX9 G (a_t 0) a_t_now v_t_now]) rfl (fun H locs h => ?_)
  refine lv_if_eq (tgt := 20) C.hx C.hb dX11_who_8 (by decide) (fun zc4 => ?_) (fun zc4 => ?_)
  · replace hf := it_t zc4 hf
    exact w_X11_who_20 C  hf h (lv_sub hl [0] rfl)
  · replace hf := it_f zc4 hf
    refine lv_iload_n C.hx C.hb dX11_who_11 rfl (lv_at hl 2 rfl) ?_
    refine lv_iconst (v := 0) C.hx C.hb dX11_who_12 (by decide) ?_
    refine lv_iconst (v := 1) C.hx C.hb dX11_who_13 (by decide) ?_
    obtain ⟨zr5, zq6, hf⟩ := bd_some hf
    have zm7 := c_X11_within l G  (hf := zq6)
    refine g_goI C h zm7.1 (is := []) rfl rfl (g_runS C h (is := []) rfl rfl (As := [.int x2, .int 0, .int 1]) (rest := []) (zm7.2 _) sf_X11_79 hl.1 rfl rfl (Nat.le_of_ble_eq_true rfl) dX11_who_14 ⟨Nat.le_of_ble_eq_true rfl, Nat.le_of_ble_eq_true rfl⟩ ⟨Nat.le_refl _, Nat.le_refl _⟩) (us2 := [uX11 G o_t a_t v_t, uX0 G (a_t 10) a_t_day v_t_day, uX8 G (a_t_day 0) a_t_day_swing v_t_day_swing, uX2 G (a_t_day_swing 0) a_t_day_swing_kinds, uX9 G (a_t 0) a_t_now v_t_now]) rfl (fun H locs h => ?_)
    refine lv_if_ne (tgt := 27) C.hx C.hb dX11_who_17 (by decide) (fun zc8 => ?_) (fun zc8 => ?_)
    · replace hf := it_f zc8 hf
      refine lv_aload_n C.hx C.hb dX11_who_27 rfl (lv_at hl 0 rfl) ?_
      refine g_get C h fl_X11_61 0 0 rfl rfl (v := .ref (a_t 10)) rfl dX11_who_28 ?_
      refine lv_aload_n C.hx C.hb dX11_who_31 rfl (lv_at hl 0 rfl) ?_
      refine g_get C h fl_X11_12 0 0 rfl rfl (v := .ref (a_t 0)) rfl dX11_who_32 ?_
      obtain ⟨zr9, zq10, hf⟩ := bd_some hf
      have zm11 := c_X0_findEnds l G (a_t 10) (a_t 0) a_t_now a_t_day a_t_day_swing a_t_day_swing_kinds N (hf := zq10)
      refine g_goV C h zm11.1 (is := [1, 4, 2, 3]) rfl rfl (g_runV C h (is := [1, 4, 2, 3]) rfl rfl (As := [.ref (a_t 0)]) (rest := []) (zm11.2 _) vf_X11_187 1 0 rfl rfl hl.1 rfl rfl (Nat.le_of_ble_eq_true rfl) dX11_who_35 ⟨Nat.le_of_ble_eq_true rfl, Nat.le_of_ble_eq_true rfl⟩ ⟨Nat.le_refl _, Nat.le_refl _⟩) (us2 := [uX11 G o_t a_t v_t, uX0 G (a_t 10) a_t_day zr9.1, uX8 G (a_t_day 0) a_t_day_swing zr9.2, uX2 G (a_t_day_swing 0) a_t_day_swing_kinds, uX9 G (a_t 0) a_t_now v_t_now]) rfl (fun H locs h => ?_)
      refine lv_iload_n C.hx C.hb dX11_who_38 rfl (lv_at hl 2 rfl) ?_
      refine lv_if_ne (tgt := 53) C.hx C.hb dX11_who_39 (by decide) (fun zc12 => ?_) (fun zc12 => ?_)
      · replace hf := it_f zc12 hf
        refine lv_aload_n C.hx C.hb dX11_who_53 rfl (lv_at hl 0 rfl) ?_
        refine g_get C h fl_X11_61 0 0 rfl rfl (v := .ref (a_t 10)) rfl dX11_who_54 ?_
        refine lv_iload_n C.hx C.hb dX11_who_57 rfl (lv_at hl 1 rfl) ?_
        obtain ⟨zr13, zq14, hf⟩ := bd_some hf
        have zm15 := c_X0_leastThatEndsAt l G (a_t 10) a_t_day N (hf := zq14)
        refine g_goI C h zm15.1 (is := [1]) rfl rfl (g_runV C h (is := [1]) rfl rfl (As := [.int x1]) (rest := []) (zm15.2 _) vf_X11_193 1 0 rfl rfl hl.1 rfl rfl (Nat.le_of_ble_eq_true rfl) dX11_who_58 ⟨Nat.le_of_ble_eq_true rfl, Nat.le_of_ble_eq_true rfl⟩ ⟨Nat.le_refl _, Nat.le_refl _⟩) (us2 := [uX11 G o_t a_t v_t, uX0 G (a_t 10) a_t_day zr9.1, uX8 G (a_t_day 0) a_t_day_swing zr9.2, uX2 G (a_t_day_swing 0) a_t_day_swing_kinds, uX9 G (a_t 0) a_t_now v_t_now]) rfl (fun H locs h => ?_)
        obtain rfl := Option.some.inj hf
        exact g_ret_i C h rfl rfl dX11_who_61
      · replace hf := it_t zc12 hf
        refine lv_aload_n C.hx C.hb dX11_who_42 rfl (lv_at hl 0 rfl) ?_
        refine g_get C h fl_X11_61 0 0 rfl rfl (v := .ref (a_t 10)) rfl dX11_who_43 ?_
        refine lv_iload_n C.hx C.hb dX11_who_46 rfl (lv_at hl 1 rfl) ?_
        obtain ⟨zr16, zq17, hf⟩ := bd_some hf
        have zm18 := c_X0_howManyEndAt l G (a_t 10) a_t_day N (hf := zq17)
        refine g_goI C h zm18.1 (is := [1]) rfl rfl (g_runV C h (is := [1]) rfl rfl (As := [.int x1]) (rest := []) (zm18.2 _) vf_X11_190 1 0 rfl rfl hl.1 rfl rfl (Nat.le_of_ble_eq_true rfl) dX11_who_47 ⟨Nat.le_of_ble_eq_true rfl, Nat.le_of_ble_eq_true rfl⟩ ⟨Nat.le_refl _, Nat.le_refl _⟩) (us2 := [uX11 G o_t a_t v_t, uX0 G (a_t 10) a_t_day zr9.1, uX8 G (a_t_day 0) a_t_day_swing zr9.2, uX2 G (a_t_day_swing 0) a_t_day_swing_kinds, uX9 G (a_t 0) a_t_now v_t_now]) rfl (fun H locs h => ?_)
        refine lv_goto (tgt := 61) C.hx C.hb dX11_who_50 (by decide) ?_
        obtain rfl := Option.some.inj hf
        exact g_ret_i C h rfl rfl dX11_who_61
    · replace hf := it_t zc8 hf
      exact w_X11_who_20 C  hf h (lv_sub hl [0] rfl)

def f_X11_would (N : Nat) (v_t : US) (v_t_now : US) (v_t_swing : US) (x1 : Int32) (x2 : Int32) : Option (Int32 × US × US) :=
  (f_X11_isPull v_t v_t_now x1 x2).bind fun zr1 => if (b2i zr1) = 0 then ((f_X11_bad v_t (-2)).bind fun zr11 => some (zr11.1, zr11.2, v_t_swing)) else ((f_X8_by N v_t_swing v_t_now (v_t_now.1 5) x1 x2 (-1) 0).bind fun zr5 => (f_X8_behind zr5 (v_t_now.1 7)).bind fun zr8 => some (zr8, v_t, zr5))
set_option maxRecDepth 100000 in
set_option maxHeartbeats 4000000 in
theorem c_X11_would (l : Launch) (G : GG) (o_t : Nat) (a_t a_t_now a_t_swing a_t_swing_kinds : Nat → Nat) (N : Nat) {v_t : US} {v_t_now : US} {v_t_swing : US} {x1 : Int32} {x2 : Int32} {res : Int32 × US × US} (hf : f_X11_would N v_t v_t_now v_t_swing x1 x2 = some res) : MI l yX11_would cX11_would 3 (some .int) 5 [.ref o_t, .int x1, .int x2] G [uX11 G o_t a_t v_t, uX9 G (a_t 0) a_t_now v_t_now, uX8 G (a_t 9) a_t_swing v_t_swing, uX2 G (a_t_swing 0) a_t_swing_kinds] res.1 [uX11 G o_t a_t res.2.1, uX9 G (a_t 0) a_t_now v_t_now, uX8 G (a_t 9) a_t_swing res.2.2, uX2 G (a_t_swing 0) a_t_swing_kinds] := by
  unfold f_X11_would at hf
  refine MI.intro (by decide) rfl (Nat.le_of_ble_eq_true rfl) (fun p e s m args below meth c A ls C h hl => ?_)
  have C : MC RX11 cX11_would 3 (some .int) G A p s m args meth c := C
  have hl : lv_has ls 3 [(0, .ref o_t), (1, .int x1), (2, .int x2)] := hl
  refine lv_aload_n C.hx C.hb dX11_would_0 rfl (lv_at hl 0 rfl) ?_
  refine lv_iload_n C.hx C.hb dX11_would_1 rfl (lv_at hl 1 rfl) ?_
  refine lv_iload_n C.hx C.hb dX11_would_2 rfl (lv_at hl 2 rfl) ?_
  obtain ⟨zr1, zq2, hf⟩ := bd_some hf
  have zm3 := c_X11_isPull l G o_t a_t a_t_now (hf := zq2)
  refine g_goI C h zm3.1 (is := [0, 1]) rfl rfl (g_runV C h (is := [0, 1]) rfl rfl (As := [.int x1, .int x2]) (rest := []) (zm3.2 _) vf_X11_132 0 0 rfl rfl hl.1 rfl rfl (Nat.le_of_ble_eq_true rfl) dX11_would_3 ⟨Nat.le_of_ble_eq_true rfl, Nat.le_of_ble_eq_true rfl⟩ ⟨Nat.le_refl _, Nat.le_refl _⟩) (us2 := [uX11 G o_t a_t v_t, uX9 G (a_t 0) a_t_now v_t_now, uX8 G (a_t 9) a_t_swing v_t_swing, uX2 G (a_t_swing 0) a_t_swing_kinds]) rfl (fun H locs h => ?_)
  refine lv_if_ne (tgt := 16) C.hx C.hb dX11_would_6 (by decide) (fun zc4 => ?_) (fun zc4 => ?_)
  · replace hf := it_f zc4 hf
    refine lv_aload_n C.hx C.hb dX11_would_16 rfl (lv_at hl 0 rfl) ?_
    refine g_get C h fl_X11_52 0 0 rfl rfl (v := .ref (a_t 9)) rfl dX11_would_17 ?_
    refine lv_aload_n C.hx C.hb dX11_would_20 rfl (lv_at hl 0 rfl) ?_
    refine g_get C h fl_X11_12 0 0 rfl rfl (v := .ref (a_t 0)) rfl dX11_would_21 ?_
    refine lv_aload_n C.hx C.hb dX11_would_24 rfl (lv_at hl 0 rfl) ?_
    refine g_get C h fl_X11_12 0 0 rfl rfl (v := .ref (a_t 0)) rfl dX11_would_25 ?_
    refine g_get C h fl_X11_102 1 0 rfl rfl (v := .int (v_t_now.1 5)) rfl dX11_would_28 ?_
    refine lv_iload_n C.hx C.hb dX11_would_31 rfl (lv_at hl 1 rfl) ?_
    refine lv_iload_n C.hx C.hb dX11_would_32 rfl (lv_at hl 2 rfl) ?_
    refine lv_iconst (v := (-1)) C.hx C.hb dX11_would_33 (by decide) ?_
    refine lv_iconst (v := 0) C.hx C.hb dX11_would_34 (by decide) ?_
    obtain ⟨zr5, zq6, hf⟩ := bd_some hf
    have zm7 := c_X8_by l G (a_t 9) (a_t 0) a_t_now a_t_swing a_t_swing_kinds N (hf := zq6)
    refine g_goV C h zm7.1 (is := [2, 1, 3]) rfl rfl (g_runV C h (is := [2, 1, 3]) rfl rfl (As := [.ref (a_t 0), .int (v_t_now.1 5), .int x1, .int x2, .int (-1), .int 0]) (rest := []) (zm7.2 _) vf_X11_135 2 0 rfl rfl hl.1 rfl rfl (Nat.le_of_ble_eq_true rfl) dX11_would_35 ⟨Nat.le_of_ble_eq_true rfl, Nat.le_of_ble_eq_true rfl⟩ ⟨Nat.le_refl _, Nat.le_refl _⟩) (us2 := [uX11 G o_t a_t v_t, uX9 G (a_t 0) a_t_now v_t_now, uX8 G (a_t 9) a_t_swing zr5, uX2 G (a_t_swing 0) a_t_swing_kinds]) rfl (fun H locs h => ?_)
    refine lv_aload_n C.hx C.hb dX11_would_38 rfl (lv_at hl 0 rfl) ?_
    refine g_get C h fl_X11_52 0 0 rfl rfl (v := .ref (a_t 9)) rfl dX11_would_39 ?_
    refine lv_aload_n C.hx C.hb dX11_would_42 rfl (lv_at hl 0 rfl) ?_
    refine g_get C h fl_X11_12 0 0 rfl rfl (v := .ref (a_t 0)) rfl dX11_would_43 ?_
    refine g_get C h fl_X11_142 1 0 rfl rfl (v := .int (v_t_now.1 7)) rfl dX11_would_46 ?_
    obtain ⟨zr8, zq9, hf⟩ := bd_some hf
    have zm10 := c_X8_behind l G (a_t 9) a_t_swing (hf := zq9)
    refine g_goI C h zm10.1 (is := [2]) rfl rfl (g_runV C h (is := [2]) rfl rfl (As := [.int (v_t_now.1 7)]) (rest := []) (zm10.2 _) vf_X11_145 2 0 rfl rfl hl.1 rfl rfl (Nat.le_of_ble_eq_true rfl) dX11_would_49 ⟨Nat.le_of_ble_eq_true rfl, Nat.le_of_ble_eq_true rfl⟩ ⟨Nat.le_refl _, Nat.le_refl _⟩) (us2 := [uX11 G o_t a_t v_t, uX9 G (a_t 0) a_t_now v_t_now, uX8 G (a_t 9) a_t_swing zr5, uX2 G (a_t_swing 0) a_t_swing_kinds]) rfl (fun H locs h => ?_)
    obtain rfl := Option.some.inj hf
    exact g_ret_i C h rfl rfl dX11_would_52
  · replace hf := it_t zc4 hf
    refine lv_aload_n C.hx C.hb dX11_would_9 rfl (lv_at hl 0 rfl) ?_
    refine lv_bipush (v := (-2)) C.hx C.hb dX11_would_10 (by decide) ?_
    obtain ⟨zr11, zq12, hf⟩ := bd_some hf
    have zm13 := c_X11_bad l G o_t a_t (hf := zq12)
    refine g_goI C h zm13.1 (is := [0]) rfl rfl (g_runV C h (is := [0]) rfl rfl (As := [.int (-2)]) (rest := []) (zm13.2 _) vf_X11_83 0 0 rfl rfl hl.1 rfl rfl (Nat.le_of_ble_eq_true rfl) dX11_would_12 ⟨Nat.le_of_ble_eq_true rfl, Nat.le_of_ble_eq_true rfl⟩ ⟨Nat.le_refl _, Nat.le_refl _⟩) (us2 := [uX11 G o_t a_t zr11.2, uX9 G (a_t 0) a_t_now v_t_now, uX8 G (a_t 9) a_t_swing v_t_swing, uX2 G (a_t_swing 0) a_t_swing_kinds]) rfl (fun H locs h => ?_)
    obtain rfl := Option.some.inj hf
    exact g_ret_i C h rfl rfl dX11_would_15

def f_X11_read (N : Nat) (v_t : US) (v_t_now : US) (v_t_reader : US) (v_t_reader_draft : US) (v_t_text : Nat → Int32)  : Option (Int32 × US × US × US) :=
  (f_X5_takes N v_t_reader v_t_text v_t_reader_draft (v_t.1 3)).bind fun zr1 => if (b2i zr1.1) = 0 then (some ((-10) - (zr1.2.1.1 2), v_t_now, zr1.2.1, zr1.2.2)) else ((f_X9_becomeLike v_t_now zr1.2.2).bind fun zr5 => some (zr1.2.1.1 1, zr5, zr1.2.1, zr1.2.2))
set_option maxRecDepth 100000 in
set_option maxHeartbeats 4000000 in
theorem c_X11_read (l : Launch) (G : GG) (o_t : Nat) (a_t a_t_now a_t_reader a_t_reader_draft : Nat → Nat) (N : Nat) {v_t : US} {v_t_now : US} {v_t_reader : US} {v_t_reader_draft : US} {v_t_text : Nat → Int32}  {res : Int32 × US × US × US} (hf : f_X11_read N v_t v_t_now v_t_reader v_t_reader_draft v_t_text = some res) : MI l yX11_read cX11_read 2 (some .int) 8 [.ref o_t] G [uX11 G o_t a_t v_t, uX9 G (a_t 0) a_t_now v_t_now, uX5 G (a_t 12) a_t_reader v_t_reader, uX9 G (a_t_reader 0) a_t_reader_draft v_t_reader_draft, uA G 200 (a_t 2) v_t_text] res.1 [uX11 G o_t a_t v_t, uX9 G (a_t 0) a_t_now res.2.1, uX5 G (a_t 12) (upn a_t_reader 3 (a_t 2)) res.2.2.1, uX9 G (a_t_reader 0) a_t_reader_draft res.2.2.2, uA G 200 (a_t 2) v_t_text] := by
  unfold f_X11_read at hf
  refine MI.intro (by decide) rfl (Nat.le_of_ble_eq_true rfl) (fun p e s m args below meth c A ls C h hl => ?_)
  have C : MC RX11 cX11_read 2 (some .int) G A p s m args meth c := C
  have hl : lv_has ls 2 [(0, .ref o_t)] := hl
  refine lv_aload_n C.hx C.hb dX11_read_0 rfl (lv_at hl 0 rfl) ?_
  refine g_get C h fl_X11_75 0 0 rfl rfl (v := .ref (a_t 12)) rfl dX11_read_1 ?_
  refine lv_aload_n C.hx C.hb dX11_read_4 rfl (lv_at hl 0 rfl) ?_
  refine g_get C h fl_X11_20 0 0 rfl rfl (v := .ref (a_t 2)) rfl dX11_read_5 ?_
  refine lv_aload_n C.hx C.hb dX11_read_8 rfl (lv_at hl 0 rfl) ?_
  refine g_get C h fl_X11_24 0 0 rfl rfl (v := .int (v_t.1 3)) rfl dX11_read_9 ?_
  obtain ⟨zr1, zq2, hf⟩ := bd_some hf
  have zm3 := c_X5_takes l G (a_t 12) (a_t 2) a_t_reader a_t_reader_draft N (hf := zq2)
  refine g_goI C h zm3.1 (is := [2, 4, 3]) rfl rfl (g_runV C h (is := [2, 4, 3]) rfl rfl (As := [.ref (a_t 2), .int (v_t.1 3)]) (rest := []) (zm3.2 _) vf_X11_115 2 0 rfl rfl hl.1 rfl rfl (Nat.le_of_ble_eq_true rfl) dX11_read_12 ⟨Nat.le_of_ble_eq_true rfl, Nat.le_of_ble_eq_true rfl⟩ ⟨Nat.le_refl _, Nat.le_refl _⟩) (us2 := [uX11 G o_t a_t v_t, uX9 G (a_t 0) a_t_now v_t_now, uX5 G (a_t 12) (upn a_t_reader 3 (a_t 2)) zr1.2.1, uX9 G (a_t_reader 0) a_t_reader_draft zr1.2.2, uA G 200 (a_t 2) v_t_text]) rfl (fun H locs h => ?_)
  refine lv_istore_n (lv' := [(1, .int (b2i zr1.1)), (0, .ref o_t)]) C.hx C.hb dX11_read_15 rfl hl (by decide) rfl (fun ls hl => ?_)
  refine lv_iload_n C.hx C.hb dX11_read_16 rfl (lv_at hl 0 rfl) ?_
  refine lv_if_ne (tgt := 31) C.hx C.hb dX11_read_17 (by decide) (fun zc4 => ?_) (fun zc4 => ?_)
  · replace hf := it_f zc4 hf
    refine lv_aload_n C.hx C.hb dX11_read_31 rfl (lv_at hl 1 rfl) ?_
    refine g_get C h fl_X11_12 0 0 rfl rfl (v := .ref (a_t 0)) rfl dX11_read_32 ?_
    refine lv_aload_n C.hx C.hb dX11_read_35 rfl (lv_at hl 1 rfl) ?_
    refine g_get C h fl_X11_75 0 0 rfl rfl (v := .ref (a_t 12)) rfl dX11_read_36 ?_
    refine g_get C h fl_X11_122 2 0 rfl rfl (v := .ref (a_t_reader 0)) rfl dX11_read_39 ?_
    obtain ⟨zr5, zq6, hf⟩ := bd_some hf
    have zm7 := c_X9_becomeLike l G (a_t 0) (a_t_reader 0) a_t_reader_draft a_t_now (hf := zq6)
    refine g_goV C h zm7.1 (is := [1, 3]) rfl rfl (g_runV C h (is := [1, 3]) rfl rfl (As := [.ref (a_t_reader 0)]) (rest := []) (zm7.2 _) vf_X11_125 1 0 rfl rfl hl.1 rfl rfl (Nat.le_of_ble_eq_true rfl) dX11_read_42 ⟨Nat.le_of_ble_eq_true rfl, Nat.le_of_ble_eq_true rfl⟩ ⟨Nat.le_refl _, Nat.le_refl _⟩) (us2 := [uX11 G o_t a_t v_t, uX9 G (a_t 0) a_t_now zr5, uX5 G (a_t 12) (upn a_t_reader 3 (a_t 2)) zr1.2.1, uX9 G (a_t_reader 0) a_t_reader_draft zr1.2.2, uA G 200 (a_t 2) v_t_text]) rfl (fun H locs h => ?_)
    refine lv_aload_n C.hx C.hb dX11_read_45 rfl (lv_at hl 1 rfl) ?_
    refine g_get C h fl_X11_75 0 0 rfl rfl (v := .ref (a_t 12)) rfl dX11_read_46 ?_
    refine g_get C h fl_X11_129 2 0 rfl rfl (v := .int (zr1.2.1.1 1)) rfl dX11_read_49 ?_
    obtain rfl := Option.some.inj hf
    exact g_ret_i C h rfl rfl dX11_read_52
  · replace hf := it_t zc4 hf
    refine lv_bipush (v := (-10)) C.hx C.hb dX11_read_20 (by decide) ?_
    refine lv_aload_n C.hx C.hb dX11_read_22 rfl (lv_at hl 1 rfl) ?_
    refine g_get C h fl_X11_75 0 0 rfl rfl (v := .ref (a_t 12)) rfl dX11_read_23 ?_
    refine g_get C h fl_X11_119 2 0 rfl rfl (v := .int (zr1.2.1.1 2)) rfl dX11_read_26 ?_
    refine lv_isub C.hx C.hb dX11_read_29 ?_
    obtain rfl := Option.some.inj hf
    exact g_ret_i C h rfl rfl dX11_read_30
