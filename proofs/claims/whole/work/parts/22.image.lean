def zUS : US := (fun _ => 0, fun _ => 0, fun _ _ => 0)
def sl9 (q : Nat → Nat) : Nat → Nat := fun j => q (match j with | 1 => 1 | 2 => 2 | 3 => 3 | 4 => 4 | 9 => 5 | 10 => 6 | 12 => 7 | 13 => 8 | 14 => 9 | 16 => 10 | _ => 0)
theorem HP.re {G : GG} {A : Nat → Prop} {s : State} {us us2 : List va_W} {H : Heap} {locs : List Loc} (h : HP G A s us H locs) (e : us.flatten = us2.flatten) : HP G A s us2 H locs := by
  unfold HP at h ⊢
  rw [← e]
  exact h
set_option maxRecDepth 100000 in
set_option maxHeartbeats 4000000 in
theorem c_image_bad (l : Launch) (G : GG) (o_t : Nat) (a_t : Nat → Nat) {v_t : US} {x1 : Int32} (hw : f_X11_within x1 0 1 = some false) : MI l yX11_image cX11_image 2 (some .int) 2 [.ref o_t, .int x1] G [uX11 G o_t a_t v_t] (-2) [uX11 G o_t a_t (upi v_t 6 (v_t.1 6 + 1))] := by
  refine MI.intro (by decide) rfl (Nat.le_of_ble_eq_true rfl) (fun p e s m args below meth c A ls C h hl => ?_)
  have C : MC RX11 cX11_image 2 (some .int) G A p s m args meth c := C
  have hl : lv_has ls 2 [(0, .ref o_t), (1, .int x1)] := hl
  refine lv_iload_n C.hx C.hb dX11_image_0 rfl (lv_at hl 1 rfl) ?_
  refine lv_iconst (v := 0) C.hx C.hb dX11_image_1 (by decide) ?_
  refine lv_iconst (v := 1) C.hx C.hb dX11_image_2 (by decide) ?_
  have zm := c_X11_within l G (hf := hw)
  refine g_goI C h zm.1 (is := []) rfl rfl (g_runS C h (is := []) rfl rfl (As := [.int x1, .int 0, .int 1]) (rest := []) (zm.2 _) sf_X11_79 hl.1 rfl rfl (Nat.le_of_ble_eq_true rfl) dX11_image_3 ⟨Nat.le_of_ble_eq_true rfl, Nat.le_of_ble_eq_true rfl⟩ ⟨Nat.le_of_ble_eq_true rfl, Nat.le_of_ble_eq_true rfl⟩) (us2 := [uX11 G o_t a_t v_t]) rfl (fun H locs h => ?_)
  refine lv_if_ne (tgt := 16) C.hx C.hb dX11_image_6 (by decide) (fun zc => absurd rfl zc) (fun _ => ?_)
  refine lv_aload_n C.hx C.hb dX11_image_9 rfl (lv_at hl 0 rfl) ?_
  refine lv_bipush (v := (-2)) C.hx C.hb dX11_image_10 (by decide) ?_
  have zb := c_X11_bad l G o_t a_t (v_t := v_t) (x1 := (-2)) rfl
  refine g_goI C h zb.1 (is := [0]) rfl rfl (g_runV C h (is := [0]) rfl rfl (As := [.int (-2)]) (rest := []) (zb.2 _) vf_X11_83 0 0 rfl rfl hl.1 rfl rfl (Nat.le_of_ble_eq_true rfl) dX11_image_12 ⟨Nat.le_of_ble_eq_true rfl, Nat.le_of_ble_eq_true rfl⟩ ⟨Nat.le_of_ble_eq_true rfl, Nat.le_of_ble_eq_true rfl⟩) (us2 := [uX11 G o_t a_t (upi v_t 6 (v_t.1 6 + 1))]) rfl (fun H locs h => ?_)
  exact g_ret_i C h rfl rfl dX11_image_15
set_option maxRecDepth 100000 in
set_option maxHeartbeats 4000000 in
theorem c_from_bad (l : Launch) (G : GG) (o_t : Nat) (a_t : Nat → Nat) {v_t : US} {x1 : Int32} (hw : f_X11_within x1 0 1 = some false) : MI l yX11_from cX11_from 3 (some .int) 2 [.ref o_t, .int x1] G [uX11 G o_t a_t v_t] (-2) [uX11 G o_t a_t (upi v_t 6 (v_t.1 6 + 1))] := by
  refine MI.intro (by decide) rfl (Nat.le_of_ble_eq_true rfl) (fun p e s m args below meth c A ls C h hl => ?_)
  have C : MC RX11 cX11_from 3 (some .int) G A p s m args meth c := C
  have hl : lv_has ls 3 [(0, .ref o_t), (1, .int x1)] := hl
  refine lv_iload_n C.hx C.hb dX11_from_0 rfl (lv_at hl 1 rfl) ?_
  refine lv_iconst (v := 0) C.hx C.hb dX11_from_1 (by decide) ?_
  refine lv_iconst (v := 1) C.hx C.hb dX11_from_2 (by decide) ?_
  have zm := c_X11_within l G (hf := hw)
  refine g_goI C h zm.1 (is := []) rfl rfl (g_runS C h (is := []) rfl rfl (As := [.int x1, .int 0, .int 1]) (rest := []) (zm.2 _) sf_X11_79 hl.1 rfl rfl (Nat.le_of_ble_eq_true rfl) dX11_from_3 ⟨Nat.le_of_ble_eq_true rfl, Nat.le_of_ble_eq_true rfl⟩ ⟨Nat.le_of_ble_eq_true rfl, Nat.le_of_ble_eq_true rfl⟩) (us2 := [uX11 G o_t a_t v_t]) rfl (fun H locs h => ?_)
  refine lv_if_ne (tgt := 16) C.hx C.hb dX11_from_6 (by decide) (fun zc => absurd rfl zc) (fun _ => ?_)
  refine lv_aload_n C.hx C.hb dX11_from_9 rfl (lv_at hl 0 rfl) ?_
  refine lv_bipush (v := (-2)) C.hx C.hb dX11_from_10 (by decide) ?_
  have zb := c_X11_bad l G o_t a_t (v_t := v_t) (x1 := (-2)) rfl
  refine g_goI C h zb.1 (is := [0]) rfl rfl (g_runV C h (is := [0]) rfl rfl (As := [.int (-2)]) (rest := []) (zb.2 _) vf_X11_83 0 0 rfl rfl hl.1 rfl rfl (Nat.le_of_ble_eq_true rfl) dX11_from_12 ⟨Nat.le_of_ble_eq_true rfl, Nat.le_of_ble_eq_true rfl⟩ ⟨Nat.le_of_ble_eq_true rfl, Nat.le_of_ble_eq_true rfl⟩) (us2 := [uX11 G o_t a_t (upi v_t 6 (v_t.1 6 + 1))]) rfl (fun H locs h => ?_)
  exact g_ret_i C h rfl rfl dX11_from_15
set_option maxRecDepth 100000 in
set_option maxHeartbeats 4000000 in
theorem c_from_none (l : Launch) (G : GG) (o_t : Nat) (a_t : Nat → Nat) {v_t : US} {f : Nat → Option Nat} {x1 : Int32} (hw : f_X11_within x1 0 1 = some true) (hx : vp_in x1 2) (hfi : f x1.toNatClampNeg = none) : MI l yX11_from cX11_from 3 (some .int) 2 [.ref o_t, .int x1] G [uX11 G o_t a_t v_t, uG G (a_t 1) f] (-3) [uX11 G o_t a_t (upi v_t 7 (v_t.1 7 + 1)), uG G (a_t 1) f] := by
  refine MI.intro (by decide) rfl (Nat.le_of_ble_eq_true rfl) (fun p e s m args below meth c A ls C h hl => ?_)
  have C : MC RX11 cX11_from 3 (some .int) G A p s m args meth c := C
  have hl : lv_has ls 3 [(0, .ref o_t), (1, .int x1)] := hl
  refine lv_iload_n C.hx C.hb dX11_from_0 rfl (lv_at hl 1 rfl) ?_
  refine lv_iconst (v := 0) C.hx C.hb dX11_from_1 (by decide) ?_
  refine lv_iconst (v := 1) C.hx C.hb dX11_from_2 (by decide) ?_
  have zm := c_X11_within l G (hf := hw)
  refine g_goI C h zm.1 (is := []) rfl rfl (g_runS C h (is := []) rfl rfl (As := [.int x1, .int 0, .int 1]) (rest := []) (zm.2 _) sf_X11_79 hl.1 rfl rfl (Nat.le_of_ble_eq_true rfl) dX11_from_3 ⟨Nat.le_of_ble_eq_true rfl, Nat.le_of_ble_eq_true rfl⟩ ⟨Nat.le_of_ble_eq_true rfl, Nat.le_of_ble_eq_true rfl⟩) (us2 := [uX11 G o_t a_t v_t, uG G (a_t 1) f]) rfl (fun H locs h => ?_)
  refine lv_if_ne (tgt := 16) C.hx C.hb dX11_from_6 (by decide) (fun _ => ?_) (fun zc => absurd zc (by decide))
  refine lv_aload_n C.hx C.hb dX11_from_16 rfl (lv_at hl 0 rfl) ?_
  refine g_get C h fl_X11_16 0 0 rfl rfl (v := .ref (a_t 1)) rfl dX11_from_17 ?_
  refine lv_iload_n C.hx C.hb dX11_from_20 rfl (lv_at hl 1 rfl) ?_
  refine g_aald C h 1 0 rfl rfl hx (v := .null) (by rw [hfi]; rfl) dX11_from_21 ?_
  refine lv_astore_nN (lv' := [(2, .null), (0, .ref o_t), (1, .int x1)]) C.hx C.hb dX11_from_22 rfl hl (by decide) rfl (fun ls hl => ?_)
  refine lv_aload_nN C.hx C.hb dX11_from_23 rfl (lv_at hl 0 rfl) ?_
  refine lv_ifnonnullN C.hx C.hb dX11_from_24 ?_
  refine lv_aload_n C.hx C.hb dX11_from_27 rfl (lv_at hl 1 rfl) ?_
  have zb := c_X11_refusedNow l G o_t a_t (v_t := v_t) rfl
  refine g_goI C h zb.1 (is := [0]) rfl rfl (g_runV C h (is := [0]) rfl rfl (As := []) (rest := []) (zb.2 _) vf_X11_109 0 0 rfl rfl hl.1 rfl rfl (Nat.le_of_ble_eq_true rfl) dX11_from_28 ⟨Nat.le_of_ble_eq_true rfl, Nat.le_of_ble_eq_true rfl⟩ ⟨Nat.le_of_ble_eq_true rfl, Nat.le_of_ble_eq_true rfl⟩) (us2 := [uX11 G o_t a_t (upi v_t 7 (v_t.1 7 + 1)), uG G (a_t 1) f]) rfl (fun H locs h => ?_)
  exact g_ret_i C h rfl rfl dX11_from_31
set_option maxRecDepth 100000 in
set_option maxHeartbeats 4000000 in
theorem c_from_some (l : Launch) (G : GG) (o_t : Nat) (a_t : Nat → Nat) (o_i : Nat) (a_n a_i : Nat → Nat) {v_t v_n v_i res : US} {f : Nat → Option Nat} {x1 : Int32} (hw : f_X11_within x1 0 1 = some true) (hx : vp_in x1 2) (hfi : f x1.toNatClampNeg = some o_i) (hf : f_X9_becomeLike v_n v_i = some res) : MI l yX11_from cX11_from 3 (some .int) 2 [.ref o_t, .int x1] G [uX11 G o_t a_t v_t, uG G (a_t 1) f, uX9 G (a_t 0) a_n v_n, uX9 G o_i a_i v_i] 1 [uX11 G o_t a_t v_t, uG G (a_t 1) f, uX9 G (a_t 0) a_n res, uX9 G o_i a_i v_i] := by
  refine MI.intro (by decide) rfl (Nat.le_of_ble_eq_true rfl) (fun p e s m args below meth c A ls C h hl => ?_)
  have C : MC RX11 cX11_from 3 (some .int) G A p s m args meth c := C
  have hl : lv_has ls 3 [(0, .ref o_t), (1, .int x1)] := hl
  refine lv_iload_n C.hx C.hb dX11_from_0 rfl (lv_at hl 1 rfl) ?_
  refine lv_iconst (v := 0) C.hx C.hb dX11_from_1 (by decide) ?_
  refine lv_iconst (v := 1) C.hx C.hb dX11_from_2 (by decide) ?_
  have zm := c_X11_within l G (hf := hw)
  refine g_goI C h zm.1 (is := []) rfl rfl (g_runS C h (is := []) rfl rfl (As := [.int x1, .int 0, .int 1]) (rest := []) (zm.2 _) sf_X11_79 hl.1 rfl rfl (Nat.le_of_ble_eq_true rfl) dX11_from_3 ⟨Nat.le_of_ble_eq_true rfl, Nat.le_of_ble_eq_true rfl⟩ ⟨Nat.le_of_ble_eq_true rfl, Nat.le_of_ble_eq_true rfl⟩) (us2 := [uX11 G o_t a_t v_t, uG G (a_t 1) f, uX9 G (a_t 0) a_n v_n, uX9 G o_i a_i v_i]) rfl (fun H locs h => ?_)
  refine lv_if_ne (tgt := 16) C.hx C.hb dX11_from_6 (by decide) (fun _ => ?_) (fun zc => absurd zc (by decide))
  refine lv_aload_n C.hx C.hb dX11_from_16 rfl (lv_at hl 0 rfl) ?_
  refine g_get C h fl_X11_16 0 0 rfl rfl (v := .ref (a_t 1)) rfl dX11_from_17 ?_
  refine lv_iload_n C.hx C.hb dX11_from_20 rfl (lv_at hl 1 rfl) ?_
  refine g_aald C h 1 0 rfl rfl hx (v := .ref o_i) (by rw [hfi]; rfl) dX11_from_21 ?_
  refine lv_astore_n (lv' := [(2, .ref o_i), (0, .ref o_t), (1, .int x1)]) C.hx C.hb dX11_from_22 rfl hl (by decide) rfl (fun ls hl => ?_)
  refine lv_aload_n C.hx C.hb dX11_from_23 rfl (lv_at hl 0 rfl) ?_
  refine lv_ifnonnull (tgt := 32) C.hx C.hb dX11_from_24 (by decide) ?_
  refine lv_aload_n C.hx C.hb dX11_from_32 rfl (lv_at hl 1 rfl) ?_
  refine g_get C h fl_X11_12 0 0 rfl rfl (v := .ref (a_t 0)) rfl dX11_from_33 ?_
  refine lv_aload_n C.hx C.hb dX11_from_36 rfl (lv_at hl 0 rfl) ?_
  have zb := c_X9_becomeLike l G (a_t 0) o_i a_i a_n (hf := hf)
  refine g_goV C h zb.1 (is := [2, 3]) rfl rfl (g_runV C h (is := [2, 3]) rfl rfl (As := [.ref o_i]) (rest := []) (zb.2 _) vf_X11_125 2 0 rfl rfl hl.1 rfl rfl (Nat.le_of_ble_eq_true rfl) dX11_from_37 ⟨Nat.le_of_ble_eq_true rfl, Nat.le_of_ble_eq_true rfl⟩ ⟨Nat.le_of_ble_eq_true rfl, Nat.le_of_ble_eq_true rfl⟩) (us2 := [uX11 G o_t a_t v_t, uG G (a_t 1) f, uX9 G (a_t 0) a_n res, uX9 G o_i a_i v_i]) rfl (fun H locs h => ?_)
  refine lv_iconst (v := 1) C.hx C.hb dX11_from_40 (by decide) ?_
  exact g_ret_i C h rfl rfl dX11_from_41
set_option maxRecDepth 100000 in
set_option maxHeartbeats 4000000 in
theorem c_image_some (l : Launch) (G : GG) (o_t : Nat) (a_t : Nat → Nat) (o_i : Nat) (a_n a_i : Nat → Nat) {v_t v_n v_i res : US} {f : Nat → Option Nat} {x1 : Int32} (hw : f_X11_within x1 0 1 = some true) (hx : vp_in x1 2) (hfi : f x1.toNatClampNeg = some o_i) (hf : f_X9_becomeLike v_i v_n = some res) : MI l yX11_image cX11_image 2 (some .int) 2 [.ref o_t, .int x1] G [uX11 G o_t a_t v_t, uG G (a_t 1) f, uX9 G (a_t 0) a_n v_n, uX9 G o_i a_i v_i] 1 [uX11 G o_t a_t v_t, uG G (a_t 1) f, uX9 G (a_t 0) a_n v_n, uX9 G o_i a_i res] := by
  refine MI.intro (by decide) rfl (Nat.le_of_ble_eq_true rfl) (fun p e s m args below meth c A ls C h hl => ?_)
  have C : MC RX11 cX11_image 2 (some .int) G A p s m args meth c := C
  have hl : lv_has ls 2 [(0, .ref o_t), (1, .int x1)] := hl
  refine lv_iload_n C.hx C.hb dX11_image_0 rfl (lv_at hl 1 rfl) ?_
  refine lv_iconst (v := 0) C.hx C.hb dX11_image_1 (by decide) ?_
  refine lv_iconst (v := 1) C.hx C.hb dX11_image_2 (by decide) ?_
  have zm := c_X11_within l G (hf := hw)
  refine g_goI C h zm.1 (is := []) rfl rfl (g_runS C h (is := []) rfl rfl (As := [.int x1, .int 0, .int 1]) (rest := []) (zm.2 _) sf_X11_79 hl.1 rfl rfl (Nat.le_of_ble_eq_true rfl) dX11_image_3 ⟨Nat.le_of_ble_eq_true rfl, Nat.le_of_ble_eq_true rfl⟩ ⟨Nat.le_of_ble_eq_true rfl, Nat.le_of_ble_eq_true rfl⟩) (us2 := [uX11 G o_t a_t v_t, uG G (a_t 1) f, uX9 G (a_t 0) a_n v_n, uX9 G o_i a_i v_i]) rfl (fun H locs h => ?_)
  refine lv_if_ne (tgt := 16) C.hx C.hb dX11_image_6 (by decide) (fun _ => ?_) (fun zc => absurd zc (by decide))
  refine lv_aload_n C.hx C.hb dX11_image_16 rfl (lv_at hl 0 rfl) ?_
  refine g_get C h fl_X11_16 0 0 rfl rfl (v := .ref (a_t 1)) rfl dX11_image_17 ?_
  refine lv_iload_n C.hx C.hb dX11_image_20 rfl (lv_at hl 1 rfl) ?_
  refine g_aald C h 1 0 rfl rfl hx (v := .ref o_i) (by rw [hfi]; rfl) dX11_image_21 ?_
  refine lv_ifnonnull (tgt := 38) C.hx C.hb dX11_image_22 (by decide) ?_
  refine lv_aload_n C.hx C.hb dX11_image_38 rfl (lv_at hl 0 rfl) ?_
  refine g_get C h fl_X11_16 0 0 rfl rfl (v := .ref (a_t 1)) rfl dX11_image_39 ?_
  refine lv_iload_n C.hx C.hb dX11_image_42 rfl (lv_at hl 1 rfl) ?_
  refine g_aald C h 1 0 rfl rfl hx (v := .ref o_i) (by rw [hfi]; rfl) dX11_image_43 ?_
  refine lv_aload_n C.hx C.hb dX11_image_44 rfl (lv_at hl 0 rfl) ?_
  refine g_get C h fl_X11_12 0 0 rfl rfl (v := .ref (a_t 0)) rfl dX11_image_45 ?_
  have zb := c_X9_becomeLike l G o_i (a_t 0) a_n a_i (hf := hf)
  refine g_goV C h zb.1 (is := [3, 2]) rfl rfl (g_runV C h (is := [3, 2]) rfl rfl (As := [.ref (a_t 0)]) (rest := []) (zb.2 _) vf_X11_125 3 0 rfl rfl hl.1 rfl rfl (Nat.le_of_ble_eq_true rfl) dX11_image_48 ⟨Nat.le_of_ble_eq_true rfl, Nat.le_of_ble_eq_true rfl⟩ ⟨Nat.le_of_ble_eq_true rfl, Nat.le_of_ble_eq_true rfl⟩) (us2 := [uX11 G o_t a_t v_t, uG G (a_t 1) f, uX9 G (a_t 0) a_n v_n, uX9 G o_i a_i res]) rfl (fun H locs h => ?_)
  refine lv_iconst (v := 1) C.hx C.hb dX11_image_51 (by decide) ?_
  exact g_ret_i C h rfl rfl dX11_image_52
set_option maxRecDepth 100000 in
set_option maxHeartbeats 4000000 in
theorem c_image_none (l : Launch) (G : GG) (o_t : Nat) (a_t : Nat → Nat) (a_n : Nat → Nat) {v_t v_n res : US} {f : Nat → Option Nat} {x1 : Int32} (hw : f_X11_within x1 0 1 = some true) (hx : vp_in x1 2) (hfi : f x1.toNatClampNeg = none) (hf : f_X9_becomeLike zUS v_n = some res) : MJ l yX11_image cX11_image 2 (some .int) 2 11 69 [.ref o_t, .int x1] G [uX11 G o_t a_t v_t, uG G (a_t 1) f, uX9 G (a_t 0) a_n v_n, []] 1 (fun q => [uX11 G o_t a_t v_t, uG G (a_t 1) (va_up f x1.toNatClampNeg (some (q 0))), uX9 G (a_t 0) a_n v_n, uX9 G (q 0) (sl9 q) res]) := by
  refine MJ.intro (by decide) (fun q => rfl) (Nat.le_of_ble_eq_true rfl) (fun p e s m args below meth c A ls C h hl => ?_)
  have C : MC RX11 cX11_image 2 (some .int) G A p s m args meth c := C
  have hl : lv_has ls 2 [(0, .ref o_t), (1, .int x1)] := hl
  refine lv_iload_n C.hx C.hb dX11_image_0 rfl (lv_at hl 1 rfl) ?_
  refine lv_iconst (v := 0) C.hx C.hb dX11_image_1 (by decide) ?_
  refine lv_iconst (v := 1) C.hx C.hb dX11_image_2 (by decide) ?_
  have zm := c_X11_within l G (hf := hw)
  refine g_goI C h zm.1 (is := []) rfl rfl (g_runS C h (is := []) rfl rfl (As := [.int x1, .int 0, .int 1]) (rest := []) (zm.2 _) sf_X11_79 hl.1 rfl rfl (Nat.le_of_ble_eq_true rfl) dX11_image_3 ⟨Nat.le_of_ble_eq_true rfl, Nat.le_of_ble_eq_true rfl⟩ ⟨Nat.le_of_ble_eq_true rfl, Nat.le_of_ble_eq_true rfl⟩) (us2 := [uX11 G o_t a_t v_t, uG G (a_t 1) f, uX9 G (a_t 0) a_n v_n, []]) rfl (fun H locs h => ?_)
  refine lv_if_ne (tgt := 16) C.hx C.hb dX11_image_6 (by decide) (fun _ => ?_) (fun zc => absurd zc (by decide))
  refine lv_aload_n C.hx C.hb dX11_image_16 rfl (lv_at hl 0 rfl) ?_
  refine g_get C h fl_X11_16 0 0 rfl rfl (v := .ref (a_t 1)) rfl dX11_image_17 ?_
  refine lv_iload_n C.hx C.hb dX11_image_20 rfl (lv_at hl 1 rfl) ?_
  refine g_aald C h 1 0 rfl rfl hx (v := .null) (by rw [hfi]; rfl) dX11_image_21 ?_
  refine lv_ifnonnullN C.hx C.hb dX11_image_22 ?_
  refine lv_aload_n C.hx C.hb dX11_image_25 rfl (lv_at hl 0 rfl) ?_
  refine g_get C h fl_X11_16 0 0 rfl rfl (v := .ref (a_t 1)) rfl dX11_image_26 ?_
  refine lv_iload_n C.hx C.hb dX11_image_29 rfl (lv_at hl 1 rfl) ?_
  refine g_new C h fc_X9 cl_X11_9 in_X9 it_X9 (fs := [.int 0, .null, .null, .null, .null, .int 0, .int 0, .int 0, .int 0, .null, .null, .int 0, .null, .null, .null, .int 0, .null]) (fun j hj => df_X9 j hj) (Nat.le_of_ble_eq_true rfl) (Nat.le_of_ble_eq_true rfl) dX11_image_30 (fun o_i H h => ?_)
  refine lv_dup C.hx C.hb dX11_image_33 rfl ?_
  have zc := c_X9_init l G o_i
  refine g_goK C h zc.1 (i := 4) rfl (g_runJ C h (i := 4) (n := 0) rfl zc (As := []) (rest := [.ref o_i, .int x1, .ref (a_t 1)]) (by decide +kernel) im_X9_init it_X9 cd_X9_init rfl (by decide +kernel) hl.1 rfl rfl (Nat.le_of_ble_eq_true rfl) dX11_image_34 ⟨Nat.le_of_ble_eq_true rfl, Nat.le_of_ble_eq_true rfl⟩ ⟨Nat.le_of_ble_eq_true rfl, Nat.le_of_ble_eq_true rfl⟩) (fun q H locs h => ?_)
  obtain ⟨a_i, ha⟩ : ∃ a_i : Nat → Nat, a_i = sl9 (fun k => if k = 0 then o_i else q (k - 1)) := ⟨_, rfl⟩
  have h : HP G A s [uX11 G o_t a_t v_t, uG G (a_t 1) f, uX9 G (a_t 0) a_n v_n, uX9 G o_i a_i zUS] H locs := h.re (by rw [ha]; rfl)
  refine g_aast C h 1 0 rfl rfl 3 0 rfl rfl hx dX11_image_37 (u' := uG G (a_t 1) (va_up f x1.toNatClampNeg (some o_i))) (us2 := [uX11 G o_t a_t v_t, uG G (a_t 1) (va_up f x1.toNatClampNeg (some o_i)), uX9 G (a_t 0) a_n v_n, uX9 G o_i a_i zUS]) rfl rfl (fun H locs h => ?_)
  refine lv_aload_n C.hx C.hb dX11_image_38 rfl (lv_at hl 0 rfl) ?_
  refine g_get C h fl_X11_16 0 0 rfl rfl (v := .ref (a_t 1)) rfl dX11_image_39 ?_
  refine lv_iload_n C.hx C.hb dX11_image_42 rfl (lv_at hl 1 rfl) ?_
  refine g_aald C h 1 0 rfl rfl hx (v := .ref o_i) (by rw [va_up_self]; rfl) dX11_image_43 ?_
  refine lv_aload_n C.hx C.hb dX11_image_44 rfl (lv_at hl 0 rfl) ?_
  refine g_get C h fl_X11_12 0 0 rfl rfl (v := .ref (a_t 0)) rfl dX11_image_45 ?_
  have zb := c_X9_becomeLike l G o_i (a_t 0) a_n a_i (hf := hf)
  refine g_goV C h zb.1 (is := [3, 2]) rfl rfl (g_runV C h (is := [3, 2]) rfl rfl (As := [.ref (a_t 0)]) (rest := []) (zb.2 _) vf_X11_125 3 0 rfl rfl hl.1 rfl rfl (Nat.le_of_ble_eq_true rfl) dX11_image_48 ⟨Nat.le_of_ble_eq_true rfl, Nat.le_of_ble_eq_true rfl⟩ ⟨Nat.le_of_ble_eq_true rfl, Nat.le_of_ble_eq_true rfl⟩) (us2 := [uX11 G o_t a_t v_t, uG G (a_t 1) (va_up f x1.toNatClampNeg (some o_i)), uX9 G (a_t 0) a_n v_n, uX9 G o_i a_i res]) rfl (fun H locs h => ?_)
  refine lv_iconst (v := 1) C.hx C.hb dX11_image_51 (by decide) ?_
  refine W.widen (k := 11) (n := 69) (Nat.le_of_ble_eq_true rfl) (Nat.le_of_ble_eq_true rfl) ?_
  exact g_ret_j C h rfl (fun k => if k = 0 then o_i else q (k - 1)) (by rw [ha]; rfl) dX11_image_52
