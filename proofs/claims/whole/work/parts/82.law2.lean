theorem g_runVJ {own : String} {cc : ByteArray} {nL : Nat} {rt : Option FieldType} {G : GG} {A : Nat → Prop} {p : Program} {l : Launch} {e : Env} {R : Room} {s : State} {m : MethodId} {args : Array Value} {below : List Frame} {meth : Method} {c : Code} {H : Heap} {locs : List Loc} {cells slots : Nat} {pc : Nat} {ls : Array Slot} {rest st0 : List Value} {us uc : List va_W} {is : List Nat} {y : MethodName} {bytes : ByteArray} {maxL index n ci b mc ms : Nat} {rm : Room} {ret : Option FieldType} {As : List Value} {Qc : Array Value → State → Outcome → State → Prop} {free : Addr → Prop} (C : MC own cc nL rt G A p s m args meth c) (h : HP G A s us H locs) (hn : va_nd is = true) (hC : is.map (fun i => us[i]?) = uc.map some) (hM : Met l y (wdm y bytes maxL ret) rm (va_Pc (.ref b :: As) (CP G uc H.size)) Qc mc ms free) (hrc : rm.cells = mc) (hrs : rm.slots = ms) (vf : VF own index ci y bytes maxL ret n) (i j : Nat) {u : va_W} (hu : us[i]? = some u) {fs : List Value} (hc : u[j]? = some (b, .inr (ci, fs))) (hsize : ls.size = nL) (hln : As.length = n) (hst : st0 = As.reverse ++ .ref b :: rest) (hW : (rest.map fun v => v.category).sum ≤ 8) (hdg : decode cc pc = .ok (.invokevirtual index, 3)) (hR : rm.frames + 1 ≤ R.frames ∧ 8 + (maxL + 11) + rm.locals ≤ R.locals) (hf : cells + mc ≤ R.cells ∧ slots + ms ≤ R.slots) :
    va_Run p l e R s m args below meth c H locs cells slots mc ms (F0 m pc ls st0) rest (Qc (Value.ref b :: As).toArray) free := by
  obtain ⟨T, N, f1, f2, f3⟩ := vf
  obtain ⟨q0, hq, -⟩ := fl_at us i j u _ hu hc
  exact va_runV C.fix hM (cwV n C.hts f3 rfl hrc hrs ⟨rfl, f2⟩ hR) ⟨CP.blind, va_recv C.hK h.1 f1 hq, g_pre C h hn hC⟩ rfl hln hsize hst (lv_room hW) hdg hf
set_option maxRecDepth 100000 in
set_option maxHeartbeats 4000000 in
theorem lc_image {p : Program} {l : Launch} {e : Env} {s : State} {m : MethodId} {below : List Frame} {meth : Method} {c : Code} {G : GG} {b L : Nat} {xs : Nat → Int32} {ox om ok : Nat} {ax an akd ad asr ar adr am : Nat → Nat} {N : Nat} {vob : US} {vn : US} {vsw : US} {vds : US} {vd : US} {vse : US} {vr : US} {vdr : US} {vm : US} {tx : Nat → Int32} {w : Nat → Int32} {nx : Nat → Int32} {t3 : Nat} {f : Nat → Option Nat} {im0 : Option (Nat × (Nat → Nat) × US)} {im1 : Option (Nat × (Nat → Nat) × US)} {cells slots : Nat} {Q : State → Prop} {x3 : Int32} (hN : 200000 ≤ N) (C : MC RL code 4 ret G (fun q : Nat => s.heap.size ≤ q) p s m #[Value.ref b] meth c) (hX : va_X b L xs s s.heap) (hbl : b < s.heap.size) (hcs : cells ≤ room_1.cells ∧ slots ≤ room_1.slots) (hcj : cells + 11 ≤ room_1.cells ∧ slots + 69 ≤ room_1.slots) (hi1 : vp_in (x3 + 1) L) (hi2 : vp_in (x3 + 2) L) (hi3 : vp_in (x3 + 3) L) (hi4 : vp_in (x3 + 4) L) (hE : ∀ {vob : US} {vn : US} {vsw : US} {vds : US} {vd : US} {vse : US} {vr : US} {vdr : US} {vm : US} {tx : Nat → Int32} {w : Nat → Int32} {nx : Nat → Int32} {t3 : Nat} {f : Nat → Option Nat} {im0 : Option (Nat × (Nat → Nat) × US)} {im1 : Option (Nat × (Nat → Nat) × US)} {H : Heap} {locs : List Loc} {ls : Array Slot}, Inv vob vn tx (im0.map fun q => q.2.2) (im1.map fun q => q.2.2) vm w → (f 0 = im0.map fun q => q.1) ∧ (f 1 = im1.map fun q => q.1) → HP G (fun q : Nat => s.heap.size ≤ q) s [uX11 G ox ax vob, uX9 G (ax 0) an vn, uG G (ax 1) f, uA G 200 (ax 2) tx, uX8 G (ax 9) (fun _ => ok) vsw, uX2 G ok akd, uX8 G (ad 0) (fun _ => ok) vds, uX0 G (ax 10) ad vd, uX6 G (ax 11) (upn asr 0 ok) vse, uX5 G (ax 12) (upn ar 3 t3) vr, uX9 G (ar 0) adr vdr, imU G im0, imU G im1, uX12 G om am vm, uA G 63 (am 0) w, uA G 52 (am 22) nx] H locs → lv_has ls 4 [(0, .ref b), (1, .ref ox), (2, .ref om), (3, .int x3)] → W p l e room_1 s m #[Value.ref b] below meth c H locs (cells + 11) (slots + 69) Q (F0 m 996 ls [])) (hI : Inv vob vn tx (im0.map fun q => q.2.2) (im1.map fun q => q.2.2) vm w) (hfd : (f 0 = im0.map fun q => q.1) ∧ (f 1 = im1.map fun q => q.1)) {H : Heap} {locs : List Loc} {ls : Array Slot} (h : HP G (fun q : Nat => s.heap.size ≤ q) s [uX11 G ox ax vob, uX9 G (ax 0) an vn, uG G (ax 1) f, uA G 200 (ax 2) tx, uX8 G (ax 9) (fun _ => ok) vsw, uX2 G ok akd, uX8 G (ad 0) (fun _ => ok) vds, uX0 G (ax 10) ad vd, uX6 G (ax 11) (upn asr 0 ok) vse, uX5 G (ax 12) (upn ar 3 t3) vr, uX9 G (ar 0) adr vdr, imU G im0, imU G im1, uX12 G om am vm, uA G 63 (am 0) w, uA G 52 (am 22) nx] H locs) (hl : lv_has ls 4 [(0, .ref b), (1, .ref ox), (2, .ref om), (3, .int x3)]) : W p l e room_1 s m #[Value.ref b] below meth c H locs cells slots Q (F0 m 890 ls []) := by
  by_cases hk0 : xs (x3 + 1).toNatClampNeg = 0
  · rcases im0 with _ | ⟨o_i, a_i, v_i⟩
    · obtain ⟨res, rm, hbl2, hfm, heq, hI⟩ := sim_image_0 hN hI zUS
      rw [← hk0] at hfm
      refine lv_aload_n C.hx C.hb dL_law_890 rfl (lv_at hl 1 rfl) ?_
      refine lv_aload_n C.hx C.hb dL_law_891 rfl (lv_at hl 0 rfl) ?_
      refine lv_iload_n C.hx C.hb dL_law_892 rfl (lv_at hl 3 rfl) ?_
      refine lv_iconst (v := 1) C.hx C.hb dL_law_893 (by decide) ?_
      refine lv_iadd C.hx C.hb dL_law_894 ?_
      refine va_sld C.hx C.hb hX hbl (Nat.not_le.mpr hbl) h.2.2 hi1 dL_law_895 ?_
      have zmx := c_image_none l G ox ax an (v_t := vob) (f := f) (x1 := xs (x3 + 1).toNatClampNeg) (by rw [hk0]; rfl) (by rw [hk0]; unfold vp_in; decide) (by rw [hk0]; exact hfd.1) hbl2
      refine g_goJ C h zmx.1 (is := [0, 2, 1, 11]) rfl (g_runVJ C h (is := [0, 2, 1, 11]) rfl rfl (As := [.int (xs (x3 + 1).toNatClampNeg)]) (rest := []) (zmx.2 _) rfl rfl vf_L_123 0 0 rfl rfl hl.1 rfl rfl (Nat.le_of_ble_eq_true rfl) dL_law_896 ⟨Nat.le_of_ble_eq_true rfl, Nat.le_of_ble_eq_true rfl⟩ hcj) (fun q H locs h => ?_)
      have h : HP G (fun q : Nat => s.heap.size ≤ q) s [uX11 G ox ax vob, uX9 G (ax 0) an vn, uG G (ax 1) (va_up f (xs (x3 + 1).toNatClampNeg).toNatClampNeg (some (q 0))), uA G 200 (ax 2) tx, uX8 G (ax 9) (fun _ => ok) vsw, uX2 G ok akd, uX8 G (ad 0) (fun _ => ok) vds, uX0 G (ax 10) ad vd, uX6 G (ax 11) (upn asr 0 ok) vse, uX5 G (ax 12) (upn ar 3 t3) vr, uX9 G (ar 0) adr vdr, imU G (some (q 0, sl9 q, res)), imU G im1, uX12 G om am vm, uA G 63 (am 0) w, uA G 52 (am 22) nx] H locs := h
      have hfd : ((va_up f (xs (x3 + 1).toNatClampNeg).toNatClampNeg (some (q 0))) 0 = (some (q 0, sl9 q, res) : Option (Nat × (Nat → Nat) × US)).map fun q => q.1) ∧ ((va_up f (xs (x3 + 1).toNatClampNeg).toNatClampNeg (some (q 0))) 1 = (im1 : Option (Nat × (Nat → Nat) × US)).map fun q => q.1) := by
        rw [hk0]
        exact ⟨rfl, hfd.2⟩
      refine lv_aload_n C.hx C.hb dL_law_899 rfl (lv_at hl 2 rfl) ?_
      refine lv_aload_n C.hx C.hb dL_law_900 rfl (lv_at hl 0 rfl) ?_
      refine lv_iload_n C.hx C.hb dL_law_901 rfl (lv_at hl 3 rfl) ?_
      refine lv_iconst (v := 1) C.hx C.hb dL_law_902 (by decide) ?_
      refine lv_iadd C.hx C.hb dL_law_903 ?_
      refine va_sld C.hx C.hb hX hbl (Nat.not_le.mpr hbl) h.2.2 hi1 dL_law_904 ?_
      have zmrm := c_X12_image l G om am N (hf := hfm)
      refine g_goI C h zmrm.1 (is := [13, 14]) rfl rfl (g_runV C h (is := [13, 14]) rfl rfl (As := [.int (xs (x3 + 1).toNatClampNeg)]) (rest := [.int 1]) (zmrm.2 _) vf_L_126 13 0 rfl rfl hl.1 rfl rfl (Nat.le_of_ble_eq_true rfl) dL_law_905 ⟨Nat.le_of_ble_eq_true rfl, Nat.le_of_ble_eq_true rfl⟩ hcj) (us2 := [uX11 G ox ax vob, uX9 G (ax 0) an vn, uG G (ax 1) (va_up f (xs (x3 + 1).toNatClampNeg).toNatClampNeg (some (q 0))), uA G 200 (ax 2) tx, uX8 G (ax 9) (fun _ => ok) vsw, uX2 G ok akd, uX8 G (ad 0) (fun _ => ok) vds, uX0 G (ax 10) ad vd, uX6 G (ax 11) (upn asr 0 ok) vse, uX5 G (ax 12) (upn ar 3 t3) vr, uX9 G (ar 0) adr vdr, imU G (some (q 0, sl9 q, res)), imU G im1, uX12 G om am rm.2, uA G 63 (am 0) w, uA G 52 (am 22) nx]) rfl (fun H locs h => ?_)
      refine lv_icmp_eq (tgt := 996) C.hx C.hb dL_law_908 (by decide) (fun _ => ?_) (fun zc => absurd heq zc)
      exact hE (vob := vob) (vn := vn) (vm := rm.2) (tx := tx) (w := w) (f := va_up f (xs (x3 + 1).toNatClampNeg).toNatClampNeg (some (q 0))) (im0 := some (q 0, sl9 q, res)) (im1 := im1) hI hfd h hl
    · obtain ⟨res, rm, hbl2, hfm, heq, hI⟩ := sim_image_0 hN hI v_i
      rw [← hk0] at hfm
      refine lv_aload_n C.hx C.hb dL_law_890 rfl (lv_at hl 1 rfl) ?_
      refine lv_aload_n C.hx C.hb dL_law_891 rfl (lv_at hl 0 rfl) ?_
      refine lv_iload_n C.hx C.hb dL_law_892 rfl (lv_at hl 3 rfl) ?_
      refine lv_iconst (v := 1) C.hx C.hb dL_law_893 (by decide) ?_
      refine lv_iadd C.hx C.hb dL_law_894 ?_
      refine va_sld C.hx C.hb hX hbl (Nat.not_le.mpr hbl) h.2.2 hi1 dL_law_895 ?_
      have zmx := c_image_some l G ox ax o_i an a_i (v_t := vob) (f := f) (x1 := xs (x3 + 1).toNatClampNeg) (by rw [hk0]; rfl) (by rw [hk0]; unfold vp_in; decide) (by rw [hk0]; exact hfd.1) hbl2
      refine g_goI C h zmx.1 (is := [0, 2, 1, 11]) rfl rfl (g_runV C h (is := [0, 2, 1, 11]) rfl rfl (As := [.int (xs (x3 + 1).toNatClampNeg)]) (rest := []) (zmx.2 _) vf_L_123 0 0 rfl rfl hl.1 rfl rfl (Nat.le_of_ble_eq_true rfl) dL_law_896 ⟨Nat.le_of_ble_eq_true rfl, Nat.le_of_ble_eq_true rfl⟩ hcs) (us2 := [uX11 G ox ax vob, uX9 G (ax 0) an vn, uG G (ax 1) f, uA G 200 (ax 2) tx, uX8 G (ax 9) (fun _ => ok) vsw, uX2 G ok akd, uX8 G (ad 0) (fun _ => ok) vds, uX0 G (ax 10) ad vd, uX6 G (ax 11) (upn asr 0 ok) vse, uX5 G (ax 12) (upn ar 3 t3) vr, uX9 G (ar 0) adr vdr, imU G (some (o_i, a_i, res)), imU G im1, uX12 G om am vm, uA G 63 (am 0) w, uA G 52 (am 22) nx]) rfl (fun H locs h => ?_)
      refine lv_aload_n C.hx C.hb dL_law_899 rfl (lv_at hl 2 rfl) ?_
      refine lv_aload_n C.hx C.hb dL_law_900 rfl (lv_at hl 0 rfl) ?_
      refine lv_iload_n C.hx C.hb dL_law_901 rfl (lv_at hl 3 rfl) ?_
      refine lv_iconst (v := 1) C.hx C.hb dL_law_902 (by decide) ?_
      refine lv_iadd C.hx C.hb dL_law_903 ?_
      refine va_sld C.hx C.hb hX hbl (Nat.not_le.mpr hbl) h.2.2 hi1 dL_law_904 ?_
      have zmrm := c_X12_image l G om am N (hf := hfm)
      refine g_goI C h zmrm.1 (is := [13, 14]) rfl rfl (g_runV C h (is := [13, 14]) rfl rfl (As := [.int (xs (x3 + 1).toNatClampNeg)]) (rest := [.int 1]) (zmrm.2 _) vf_L_126 13 0 rfl rfl hl.1 rfl rfl (Nat.le_of_ble_eq_true rfl) dL_law_905 ⟨Nat.le_of_ble_eq_true rfl, Nat.le_of_ble_eq_true rfl⟩ hcs) (us2 := [uX11 G ox ax vob, uX9 G (ax 0) an vn, uG G (ax 1) f, uA G 200 (ax 2) tx, uX8 G (ax 9) (fun _ => ok) vsw, uX2 G ok akd, uX8 G (ad 0) (fun _ => ok) vds, uX0 G (ax 10) ad vd, uX6 G (ax 11) (upn asr 0 ok) vse, uX5 G (ax 12) (upn ar 3 t3) vr, uX9 G (ar 0) adr vdr, imU G (some (o_i, a_i, res)), imU G im1, uX12 G om am rm.2, uA G 63 (am 0) w, uA G 52 (am 22) nx]) rfl (fun H locs h => ?_)
      refine lv_icmp_eq (tgt := 996) C.hx C.hb dL_law_908 (by decide) (fun _ => ?_) (fun zc => absurd heq zc)
      refine W.widen (k := cells + 11) (n := slots + 69) (by omega) (by omega) ?_
      exact hE (vob := vob) (vn := vn) (vm := rm.2) (tx := tx) (w := w) (f := f) (im0 := some (o_i, a_i, res)) (im1 := im1) hI hfd h hl
  by_cases hk1 : xs (x3 + 1).toNatClampNeg = 1
  · rcases im1 with _ | ⟨o_i, a_i, v_i⟩
    · obtain ⟨res, rm, hbl2, hfm, heq, hI⟩ := sim_image_1 hN hI zUS
      rw [← hk1] at hfm
      refine lv_aload_n C.hx C.hb dL_law_890 rfl (lv_at hl 1 rfl) ?_
      refine lv_aload_n C.hx C.hb dL_law_891 rfl (lv_at hl 0 rfl) ?_
      refine lv_iload_n C.hx C.hb dL_law_892 rfl (lv_at hl 3 rfl) ?_
      refine lv_iconst (v := 1) C.hx C.hb dL_law_893 (by decide) ?_
      refine lv_iadd C.hx C.hb dL_law_894 ?_
      refine va_sld C.hx C.hb hX hbl (Nat.not_le.mpr hbl) h.2.2 hi1 dL_law_895 ?_
      have zmx := c_image_none l G ox ax an (v_t := vob) (f := f) (x1 := xs (x3 + 1).toNatClampNeg) (by rw [hk1]; rfl) (by rw [hk1]; unfold vp_in; decide) (by rw [hk1]; exact hfd.2) hbl2
      refine g_goJ C h zmx.1 (is := [0, 2, 1, 12]) rfl (g_runVJ C h (is := [0, 2, 1, 12]) rfl rfl (As := [.int (xs (x3 + 1).toNatClampNeg)]) (rest := []) (zmx.2 _) rfl rfl vf_L_123 0 0 rfl rfl hl.1 rfl rfl (Nat.le_of_ble_eq_true rfl) dL_law_896 ⟨Nat.le_of_ble_eq_true rfl, Nat.le_of_ble_eq_true rfl⟩ hcj) (fun q H locs h => ?_)
      have h : HP G (fun q : Nat => s.heap.size ≤ q) s [uX11 G ox ax vob, uX9 G (ax 0) an vn, uG G (ax 1) (va_up f (xs (x3 + 1).toNatClampNeg).toNatClampNeg (some (q 0))), uA G 200 (ax 2) tx, uX8 G (ax 9) (fun _ => ok) vsw, uX2 G ok akd, uX8 G (ad 0) (fun _ => ok) vds, uX0 G (ax 10) ad vd, uX6 G (ax 11) (upn asr 0 ok) vse, uX5 G (ax 12) (upn ar 3 t3) vr, uX9 G (ar 0) adr vdr, imU G im0, imU G (some (q 0, sl9 q, res)), uX12 G om am vm, uA G 63 (am 0) w, uA G 52 (am 22) nx] H locs := h
      have hfd : ((va_up f (xs (x3 + 1).toNatClampNeg).toNatClampNeg (some (q 0))) 0 = (im0 : Option (Nat × (Nat → Nat) × US)).map fun q => q.1) ∧ ((va_up f (xs (x3 + 1).toNatClampNeg).toNatClampNeg (some (q 0))) 1 = (some (q 0, sl9 q, res) : Option (Nat × (Nat → Nat) × US)).map fun q => q.1) := by
        rw [hk1]
        exact ⟨hfd.1, rfl⟩
      refine lv_aload_n C.hx C.hb dL_law_899 rfl (lv_at hl 2 rfl) ?_
      refine lv_aload_n C.hx C.hb dL_law_900 rfl (lv_at hl 0 rfl) ?_
      refine lv_iload_n C.hx C.hb dL_law_901 rfl (lv_at hl 3 rfl) ?_
      refine lv_iconst (v := 1) C.hx C.hb dL_law_902 (by decide) ?_
      refine lv_iadd C.hx C.hb dL_law_903 ?_
      refine va_sld C.hx C.hb hX hbl (Nat.not_le.mpr hbl) h.2.2 hi1 dL_law_904 ?_
      have zmrm := c_X12_image l G om am N (hf := hfm)
      refine g_goI C h zmrm.1 (is := [13, 14]) rfl rfl (g_runV C h (is := [13, 14]) rfl rfl (As := [.int (xs (x3 + 1).toNatClampNeg)]) (rest := [.int 1]) (zmrm.2 _) vf_L_126 13 0 rfl rfl hl.1 rfl rfl (Nat.le_of_ble_eq_true rfl) dL_law_905 ⟨Nat.le_of_ble_eq_true rfl, Nat.le_of_ble_eq_true rfl⟩ hcj) (us2 := [uX11 G ox ax vob, uX9 G (ax 0) an vn, uG G (ax 1) (va_up f (xs (x3 + 1).toNatClampNeg).toNatClampNeg (some (q 0))), uA G 200 (ax 2) tx, uX8 G (ax 9) (fun _ => ok) vsw, uX2 G ok akd, uX8 G (ad 0) (fun _ => ok) vds, uX0 G (ax 10) ad vd, uX6 G (ax 11) (upn asr 0 ok) vse, uX5 G (ax 12) (upn ar 3 t3) vr, uX9 G (ar 0) adr vdr, imU G im0, imU G (some (q 0, sl9 q, res)), uX12 G om am rm.2, uA G 63 (am 0) w, uA G 52 (am 22) nx]) rfl (fun H locs h => ?_)
      refine lv_icmp_eq (tgt := 996) C.hx C.hb dL_law_908 (by decide) (fun _ => ?_) (fun zc => absurd heq zc)
      exact hE (vob := vob) (vn := vn) (vm := rm.2) (tx := tx) (w := w) (f := va_up f (xs (x3 + 1).toNatClampNeg).toNatClampNeg (some (q 0))) (im0 := im0) (im1 := some (q 0, sl9 q, res)) hI hfd h hl
    · obtain ⟨res, rm, hbl2, hfm, heq, hI⟩ := sim_image_1 hN hI v_i
      rw [← hk1] at hfm
      refine lv_aload_n C.hx C.hb dL_law_890 rfl (lv_at hl 1 rfl) ?_
      refine lv_aload_n C.hx C.hb dL_law_891 rfl (lv_at hl 0 rfl) ?_
      refine lv_iload_n C.hx C.hb dL_law_892 rfl (lv_at hl 3 rfl) ?_
      refine lv_iconst (v := 1) C.hx C.hb dL_law_893 (by decide) ?_
      refine lv_iadd C.hx C.hb dL_law_894 ?_
      refine va_sld C.hx C.hb hX hbl (Nat.not_le.mpr hbl) h.2.2 hi1 dL_law_895 ?_
      have zmx := c_image_some l G ox ax o_i an a_i (v_t := vob) (f := f) (x1 := xs (x3 + 1).toNatClampNeg) (by rw [hk1]; rfl) (by rw [hk1]; unfold vp_in; decide) (by rw [hk1]; exact hfd.2) hbl2
      refine g_goI C h zmx.1 (is := [0, 2, 1, 12]) rfl rfl (g_runV C h (is := [0, 2, 1, 12]) rfl rfl (As := [.int (xs (x3 + 1).toNatClampNeg)]) (rest := []) (zmx.2 _) vf_L_123 0 0 rfl rfl hl.1 rfl rfl (Nat.le_of_ble_eq_true rfl) dL_law_896 ⟨Nat.le_of_ble_eq_true rfl, Nat.le_of_ble_eq_true rfl⟩ hcs) (us2 := [uX11 G ox ax vob, uX9 G (ax 0) an vn, uG G (ax 1) f, uA G 200 (ax 2) tx, uX8 G (ax 9) (fun _ => ok) vsw, uX2 G ok akd, uX8 G (ad 0) (fun _ => ok) vds, uX0 G (ax 10) ad vd, uX6 G (ax 11) (upn asr 0 ok) vse, uX5 G (ax 12) (upn ar 3 t3) vr, uX9 G (ar 0) adr vdr, imU G im0, imU G (some (o_i, a_i, res)), uX12 G om am vm, uA G 63 (am 0) w, uA G 52 (am 22) nx]) rfl (fun H locs h => ?_)
      refine lv_aload_n C.hx C.hb dL_law_899 rfl (lv_at hl 2 rfl) ?_
      refine lv_aload_n C.hx C.hb dL_law_900 rfl (lv_at hl 0 rfl) ?_
      refine lv_iload_n C.hx C.hb dL_law_901 rfl (lv_at hl 3 rfl) ?_
      refine lv_iconst (v := 1) C.hx C.hb dL_law_902 (by decide) ?_
      refine lv_iadd C.hx C.hb dL_law_903 ?_
      refine va_sld C.hx C.hb hX hbl (Nat.not_le.mpr hbl) h.2.2 hi1 dL_law_904 ?_
      have zmrm := c_X12_image l G om am N (hf := hfm)
      refine g_goI C h zmrm.1 (is := [13, 14]) rfl rfl (g_runV C h (is := [13, 14]) rfl rfl (As := [.int (xs (x3 + 1).toNatClampNeg)]) (rest := [.int 1]) (zmrm.2 _) vf_L_126 13 0 rfl rfl hl.1 rfl rfl (Nat.le_of_ble_eq_true rfl) dL_law_905 ⟨Nat.le_of_ble_eq_true rfl, Nat.le_of_ble_eq_true rfl⟩ hcs) (us2 := [uX11 G ox ax vob, uX9 G (ax 0) an vn, uG G (ax 1) f, uA G 200 (ax 2) tx, uX8 G (ax 9) (fun _ => ok) vsw, uX2 G ok akd, uX8 G (ad 0) (fun _ => ok) vds, uX0 G (ax 10) ad vd, uX6 G (ax 11) (upn asr 0 ok) vse, uX5 G (ax 12) (upn ar 3 t3) vr, uX9 G (ar 0) adr vdr, imU G im0, imU G (some (o_i, a_i, res)), uX12 G om am rm.2, uA G 63 (am 0) w, uA G 52 (am 22) nx]) rfl (fun H locs h => ?_)
      refine lv_icmp_eq (tgt := 996) C.hx C.hb dL_law_908 (by decide) (fun _ => ?_) (fun zc => absurd heq zc)
      refine W.widen (k := cells + 11) (n := slots + 69) (by omega) (by omega) ?_
      exact hE (vob := vob) (vn := vn) (vm := rm.2) (tx := tx) (w := w) (f := f) (im0 := im0) (im1 := some (o_i, a_i, res)) hI hfd h hl
  obtain ⟨rm, hfm, heq, hI⟩ := sim_image_bad hN hI hk0 hk1
  refine lv_aload_n C.hx C.hb dL_law_890 rfl (lv_at hl 1 rfl) ?_
  refine lv_aload_n C.hx C.hb dL_law_891 rfl (lv_at hl 0 rfl) ?_
  refine lv_iload_n C.hx C.hb dL_law_892 rfl (lv_at hl 3 rfl) ?_
  refine lv_iconst (v := 1) C.hx C.hb dL_law_893 (by decide) ?_
  refine lv_iadd C.hx C.hb dL_law_894 ?_
  refine va_sld C.hx C.hb hX hbl (Nat.not_le.mpr hbl) h.2.2 hi1 dL_law_895 ?_
  have zmx := c_image_bad l G ox ax (v_t := vob) (x1 := xs (x3 + 1).toNatClampNeg) (wi_bad hk0 hk1)
  refine g_goI C h zmx.1 (is := [0]) rfl rfl (g_runV C h (is := [0]) rfl rfl (As := [.int (xs (x3 + 1).toNatClampNeg)]) (rest := []) (zmx.2 _) vf_L_123 0 0 rfl rfl hl.1 rfl rfl (Nat.le_of_ble_eq_true rfl) dL_law_896 ⟨Nat.le_of_ble_eq_true rfl, Nat.le_of_ble_eq_true rfl⟩ hcs) (us2 := [uX11 G ox ax (upi vob 6 (vob.1 6 + 1)), uX9 G (ax 0) an vn, uG G (ax 1) f, uA G 200 (ax 2) tx, uX8 G (ax 9) (fun _ => ok) vsw, uX2 G ok akd, uX8 G (ad 0) (fun _ => ok) vds, uX0 G (ax 10) ad vd, uX6 G (ax 11) (upn asr 0 ok) vse, uX5 G (ax 12) (upn ar 3 t3) vr, uX9 G (ar 0) adr vdr, imU G im0, imU G im1, uX12 G om am vm, uA G 63 (am 0) w, uA G 52 (am 22) nx]) rfl (fun H locs h => ?_)
  refine lv_aload_n C.hx C.hb dL_law_899 rfl (lv_at hl 2 rfl) ?_
  refine lv_aload_n C.hx C.hb dL_law_900 rfl (lv_at hl 0 rfl) ?_
  refine lv_iload_n C.hx C.hb dL_law_901 rfl (lv_at hl 3 rfl) ?_
  refine lv_iconst (v := 1) C.hx C.hb dL_law_902 (by decide) ?_
  refine lv_iadd C.hx C.hb dL_law_903 ?_
  refine va_sld C.hx C.hb hX hbl (Nat.not_le.mpr hbl) h.2.2 hi1 dL_law_904 ?_
  have zmrm := c_X12_image l G om am N (hf := hfm)
  refine g_goI C h zmrm.1 (is := [13, 14]) rfl rfl (g_runV C h (is := [13, 14]) rfl rfl (As := [.int (xs (x3 + 1).toNatClampNeg)]) (rest := [.int (-2)]) (zmrm.2 _) vf_L_126 13 0 rfl rfl hl.1 rfl rfl (Nat.le_of_ble_eq_true rfl) dL_law_905 ⟨Nat.le_of_ble_eq_true rfl, Nat.le_of_ble_eq_true rfl⟩ hcs) (us2 := [uX11 G ox ax (upi vob 6 (vob.1 6 + 1)), uX9 G (ax 0) an vn, uG G (ax 1) f, uA G 200 (ax 2) tx, uX8 G (ax 9) (fun _ => ok) vsw, uX2 G ok akd, uX8 G (ad 0) (fun _ => ok) vds, uX0 G (ax 10) ad vd, uX6 G (ax 11) (upn asr 0 ok) vse, uX5 G (ax 12) (upn ar 3 t3) vr, uX9 G (ar 0) adr vdr, imU G im0, imU G im1, uX12 G om am rm.2, uA G 63 (am 0) w, uA G 52 (am 22) nx]) rfl (fun H locs h => ?_)
  refine lv_icmp_eq (tgt := 996) C.hx C.hb dL_law_908 (by decide) (fun _ => ?_) (fun zc => absurd heq zc)
  refine W.widen (k := cells + 11) (n := slots + 69) (by omega) (by omega) ?_
  exact hE (vob := upi vob 6 (vob.1 6 + 1)) (vn := vn) (vm := rm.2) (tx := tx) (w := w) (f := f) (im0 := im0) (im1 := im1) hI hfd h hl
set_option maxRecDepth 100000 in
set_option maxHeartbeats 4000000 in
theorem lc_from {p : Program} {l : Launch} {e : Env} {s : State} {m : MethodId} {below : List Frame} {meth : Method} {c : Code} {G : GG} {b L : Nat} {xs : Nat → Int32} {ox om ok : Nat} {ax an akd ad asr ar adr am : Nat → Nat} {N : Nat} {vob : US} {vn : US} {vsw : US} {vds : US} {vd : US} {vse : US} {vr : US} {vdr : US} {vm : US} {tx : Nat → Int32} {w : Nat → Int32} {nx : Nat → Int32} {t3 : Nat} {f : Nat → Option Nat} {im0 : Option (Nat × (Nat → Nat) × US)} {im1 : Option (Nat × (Nat → Nat) × US)} {cells slots : Nat} {Q : State → Prop} {x3 : Int32} (hN : 200000 ≤ N) (C : MC RL code 4 ret G (fun q : Nat => s.heap.size ≤ q) p s m #[Value.ref b] meth c) (hX : va_X b L xs s s.heap) (hbl : b < s.heap.size) (hcs : cells ≤ room_1.cells ∧ slots ≤ room_1.slots) (hcj : cells + 11 ≤ room_1.cells ∧ slots + 69 ≤ room_1.slots) (hi1 : vp_in (x3 + 1) L) (hi2 : vp_in (x3 + 2) L) (hi3 : vp_in (x3 + 3) L) (hi4 : vp_in (x3 + 4) L) (hE : ∀ {vob : US} {vn : US} {vsw : US} {vds : US} {vd : US} {vse : US} {vr : US} {vdr : US} {vm : US} {tx : Nat → Int32} {w : Nat → Int32} {nx : Nat → Int32} {t3 : Nat} {f : Nat → Option Nat} {im0 : Option (Nat × (Nat → Nat) × US)} {im1 : Option (Nat × (Nat → Nat) × US)} {H : Heap} {locs : List Loc} {ls : Array Slot}, Inv vob vn tx (im0.map fun q => q.2.2) (im1.map fun q => q.2.2) vm w → (f 0 = im0.map fun q => q.1) ∧ (f 1 = im1.map fun q => q.1) → HP G (fun q : Nat => s.heap.size ≤ q) s [uX11 G ox ax vob, uX9 G (ax 0) an vn, uG G (ax 1) f, uA G 200 (ax 2) tx, uX8 G (ax 9) (fun _ => ok) vsw, uX2 G ok akd, uX8 G (ad 0) (fun _ => ok) vds, uX0 G (ax 10) ad vd, uX6 G (ax 11) (upn asr 0 ok) vse, uX5 G (ax 12) (upn ar 3 t3) vr, uX9 G (ar 0) adr vdr, imU G im0, imU G im1, uX12 G om am vm, uA G 63 (am 0) w, uA G 52 (am 22) nx] H locs → lv_has ls 4 [(0, .ref b), (1, .ref ox), (2, .ref om), (3, .int x3)] → W p l e room_1 s m #[Value.ref b] below meth c H locs (cells + 11) (slots + 69) Q (F0 m 996 ls [])) (hI : Inv vob vn tx (im0.map fun q => q.2.2) (im1.map fun q => q.2.2) vm w) (hfd : (f 0 = im0.map fun q => q.1) ∧ (f 1 = im1.map fun q => q.1)) {H : Heap} {locs : List Loc} {ls : Array Slot} (h : HP G (fun q : Nat => s.heap.size ≤ q) s [uX11 G ox ax vob, uX9 G (ax 0) an vn, uG G (ax 1) f, uA G 200 (ax 2) tx, uX8 G (ax 9) (fun _ => ok) vsw, uX2 G ok akd, uX8 G (ad 0) (fun _ => ok) vds, uX0 G (ax 10) ad vd, uX6 G (ax 11) (upn asr 0 ok) vse, uX5 G (ax 12) (upn ar 3 t3) vr, uX9 G (ar 0) adr vdr, imU G im0, imU G im1, uX12 G om am vm, uA G 63 (am 0) w, uA G 52 (am 22) nx] H locs) (hl : lv_has ls 4 [(0, .ref b), (1, .ref ox), (2, .ref om), (3, .int x3)]) : W p l e room_1 s m #[Value.ref b] below meth c H locs cells slots Q (F0 m 913 ls []) := by
  by_cases hk0 : xs (x3 + 1).toNatClampNeg = 0
  · rcases im0 with _ | ⟨o_i, a_i, v_i⟩
    · obtain ⟨rm, hfm, heq, hI⟩ := sim_from_0_none hN hI rfl
      rw [← hk0] at hfm
      refine lv_aload_n C.hx C.hb dL_law_913 rfl (lv_at hl 1 rfl) ?_
      refine lv_aload_n C.hx C.hb dL_law_914 rfl (lv_at hl 0 rfl) ?_
      refine lv_iload_n C.hx C.hb dL_law_915 rfl (lv_at hl 3 rfl) ?_
      refine lv_iconst (v := 1) C.hx C.hb dL_law_916 (by decide) ?_
      refine lv_iadd C.hx C.hb dL_law_917 ?_
      refine va_sld C.hx C.hb hX hbl (Nat.not_le.mpr hbl) h.2.2 hi1 dL_law_918 ?_
      have zmx := c_from_none l G ox ax (v_t := vob) (f := f) (x1 := xs (x3 + 1).toNatClampNeg) (by rw [hk0]; rfl) (by rw [hk0]; unfold vp_in; decide) (by rw [hk0]; exact hfd.1)
      refine g_goI C h zmx.1 (is := [0, 2]) rfl rfl (g_runV C h (is := [0, 2]) rfl rfl (As := [.int (xs (x3 + 1).toNatClampNeg)]) (rest := []) (zmx.2 _) vf_L_127 0 0 rfl rfl hl.1 rfl rfl (Nat.le_of_ble_eq_true rfl) dL_law_919 ⟨Nat.le_of_ble_eq_true rfl, Nat.le_of_ble_eq_true rfl⟩ hcs) (us2 := [uX11 G ox ax (upi vob 7 (vob.1 7 + 1)), uX9 G (ax 0) an vn, uG G (ax 1) f, uA G 200 (ax 2) tx, uX8 G (ax 9) (fun _ => ok) vsw, uX2 G ok akd, uX8 G (ad 0) (fun _ => ok) vds, uX0 G (ax 10) ad vd, uX6 G (ax 11) (upn asr 0 ok) vse, uX5 G (ax 12) (upn ar 3 t3) vr, uX9 G (ar 0) adr vdr, imU G none, imU G im1, uX12 G om am vm, uA G 63 (am 0) w, uA G 52 (am 22) nx]) rfl (fun H locs h => ?_)
      refine lv_aload_n C.hx C.hb dL_law_922 rfl (lv_at hl 2 rfl) ?_
      refine lv_aload_n C.hx C.hb dL_law_923 rfl (lv_at hl 0 rfl) ?_
      refine lv_iload_n C.hx C.hb dL_law_924 rfl (lv_at hl 3 rfl) ?_
      refine lv_iconst (v := 1) C.hx C.hb dL_law_925 (by decide) ?_
      refine lv_iadd C.hx C.hb dL_law_926 ?_
      refine va_sld C.hx C.hb hX hbl (Nat.not_le.mpr hbl) h.2.2 hi1 dL_law_927 ?_
      have zmrm := c_X12_from l G om am N (hf := hfm)
      refine g_goI C h zmrm.1 (is := [13, 14]) rfl rfl (g_runV C h (is := [13, 14]) rfl rfl (As := [.int (xs (x3 + 1).toNatClampNeg)]) (rest := [.int (-3)]) (zmrm.2 _) vf_L_130 13 0 rfl rfl hl.1 rfl rfl (Nat.le_of_ble_eq_true rfl) dL_law_928 ⟨Nat.le_of_ble_eq_true rfl, Nat.le_of_ble_eq_true rfl⟩ hcs) (us2 := [uX11 G ox ax (upi vob 7 (vob.1 7 + 1)), uX9 G (ax 0) an vn, uG G (ax 1) f, uA G 200 (ax 2) tx, uX8 G (ax 9) (fun _ => ok) vsw, uX2 G ok akd, uX8 G (ad 0) (fun _ => ok) vds, uX0 G (ax 10) ad vd, uX6 G (ax 11) (upn asr 0 ok) vse, uX5 G (ax 12) (upn ar 3 t3) vr, uX9 G (ar 0) adr vdr, imU G none, imU G im1, uX12 G om am rm.2.1, uA G 63 (am 0) rm.2.2, uA G 52 (am 22) nx]) rfl (fun H locs h => ?_)
      refine lv_icmp_eq (tgt := 996) C.hx C.hb dL_law_931 (by decide) (fun _ => ?_) (fun zc => absurd heq zc)
      refine W.widen (k := cells + 11) (n := slots + 69) (by omega) (by omega) ?_
      exact hE (vob := upi vob 7 (vob.1 7 + 1)) (vn := vn) (vm := rm.2.1) (tx := tx) (w := rm.2.2) (f := f) (im0 := none) (im1 := im1) hI hfd h hl
    · obtain ⟨res, rm, hbl2, hfm, heq, hI⟩ := sim_from_0_some hN hI rfl
      rw [← hk0] at hfm
      refine lv_aload_n C.hx C.hb dL_law_913 rfl (lv_at hl 1 rfl) ?_
      refine lv_aload_n C.hx C.hb dL_law_914 rfl (lv_at hl 0 rfl) ?_
      refine lv_iload_n C.hx C.hb dL_law_915 rfl (lv_at hl 3 rfl) ?_
      refine lv_iconst (v := 1) C.hx C.hb dL_law_916 (by decide) ?_
      refine lv_iadd C.hx C.hb dL_law_917 ?_
      refine va_sld C.hx C.hb hX hbl (Nat.not_le.mpr hbl) h.2.2 hi1 dL_law_918 ?_
      have zmx := c_from_some l G ox ax o_i an a_i (v_t := vob) (f := f) (x1 := xs (x3 + 1).toNatClampNeg) (by rw [hk0]; rfl) (by rw [hk0]; unfold vp_in; decide) (by rw [hk0]; exact hfd.1) hbl2
      refine g_goI C h zmx.1 (is := [0, 2, 1, 11]) rfl rfl (g_runV C h (is := [0, 2, 1, 11]) rfl rfl (As := [.int (xs (x3 + 1).toNatClampNeg)]) (rest := []) (zmx.2 _) vf_L_127 0 0 rfl rfl hl.1 rfl rfl (Nat.le_of_ble_eq_true rfl) dL_law_919 ⟨Nat.le_of_ble_eq_true rfl, Nat.le_of_ble_eq_true rfl⟩ hcs) (us2 := [uX11 G ox ax vob, uX9 G (ax 0) an res, uG G (ax 1) f, uA G 200 (ax 2) tx, uX8 G (ax 9) (fun _ => ok) vsw, uX2 G ok akd, uX8 G (ad 0) (fun _ => ok) vds, uX0 G (ax 10) ad vd, uX6 G (ax 11) (upn asr 0 ok) vse, uX5 G (ax 12) (upn ar 3 t3) vr, uX9 G (ar 0) adr vdr, imU G (some (o_i, a_i, v_i)), imU G im1, uX12 G om am vm, uA G 63 (am 0) w, uA G 52 (am 22) nx]) rfl (fun H locs h => ?_)
      refine lv_aload_n C.hx C.hb dL_law_922 rfl (lv_at hl 2 rfl) ?_
      refine lv_aload_n C.hx C.hb dL_law_923 rfl (lv_at hl 0 rfl) ?_
      refine lv_iload_n C.hx C.hb dL_law_924 rfl (lv_at hl 3 rfl) ?_
      refine lv_iconst (v := 1) C.hx C.hb dL_law_925 (by decide) ?_
      refine lv_iadd C.hx C.hb dL_law_926 ?_
      refine va_sld C.hx C.hb hX hbl (Nat.not_le.mpr hbl) h.2.2 hi1 dL_law_927 ?_
      have zmrm := c_X12_from l G om am N (hf := hfm)
      refine g_goI C h zmrm.1 (is := [13, 14]) rfl rfl (g_runV C h (is := [13, 14]) rfl rfl (As := [.int (xs (x3 + 1).toNatClampNeg)]) (rest := [.int 1]) (zmrm.2 _) vf_L_130 13 0 rfl rfl hl.1 rfl rfl (Nat.le_of_ble_eq_true rfl) dL_law_928 ⟨Nat.le_of_ble_eq_true rfl, Nat.le_of_ble_eq_true rfl⟩ hcs) (us2 := [uX11 G ox ax vob, uX9 G (ax 0) an res, uG G (ax 1) f, uA G 200 (ax 2) tx, uX8 G (ax 9) (fun _ => ok) vsw, uX2 G ok akd, uX8 G (ad 0) (fun _ => ok) vds, uX0 G (ax 10) ad vd, uX6 G (ax 11) (upn asr 0 ok) vse, uX5 G (ax 12) (upn ar 3 t3) vr, uX9 G (ar 0) adr vdr, imU G (some (o_i, a_i, v_i)), imU G im1, uX12 G om am rm.2.1, uA G 63 (am 0) rm.2.2, uA G 52 (am 22) nx]) rfl (fun H locs h => ?_)
      refine lv_icmp_eq (tgt := 996) C.hx C.hb dL_law_931 (by decide) (fun _ => ?_) (fun zc => absurd heq zc)
      refine W.widen (k := cells + 11) (n := slots + 69) (by omega) (by omega) ?_
      exact hE (vob := vob) (vn := res) (vm := rm.2.1) (tx := tx) (w := rm.2.2) (f := f) (im0 := some (o_i, a_i, v_i)) (im1 := im1) hI hfd h hl
  by_cases hk1 : xs (x3 + 1).toNatClampNeg = 1
  · rcases im1 with _ | ⟨o_i, a_i, v_i⟩
    · obtain ⟨rm, hfm, heq, hI⟩ := sim_from_1_none hN hI rfl
      rw [← hk1] at hfm
      refine lv_aload_n C.hx C.hb dL_law_913 rfl (lv_at hl 1 rfl) ?_
      refine lv_aload_n C.hx C.hb dL_law_914 rfl (lv_at hl 0 rfl) ?_
      refine lv_iload_n C.hx C.hb dL_law_915 rfl (lv_at hl 3 rfl) ?_
      refine lv_iconst (v := 1) C.hx C.hb dL_law_916 (by decide) ?_
      refine lv_iadd C.hx C.hb dL_law_917 ?_
      refine va_sld C.hx C.hb hX hbl (Nat.not_le.mpr hbl) h.2.2 hi1 dL_law_918 ?_
      have zmx := c_from_none l G ox ax (v_t := vob) (f := f) (x1 := xs (x3 + 1).toNatClampNeg) (by rw [hk1]; rfl) (by rw [hk1]; unfold vp_in; decide) (by rw [hk1]; exact hfd.2)
      refine g_goI C h zmx.1 (is := [0, 2]) rfl rfl (g_runV C h (is := [0, 2]) rfl rfl (As := [.int (xs (x3 + 1).toNatClampNeg)]) (rest := []) (zmx.2 _) vf_L_127 0 0 rfl rfl hl.1 rfl rfl (Nat.le_of_ble_eq_true rfl) dL_law_919 ⟨Nat.le_of_ble_eq_true rfl, Nat.le_of_ble_eq_true rfl⟩ hcs) (us2 := [uX11 G ox ax (upi vob 7 (vob.1 7 + 1)), uX9 G (ax 0) an vn, uG G (ax 1) f, uA G 200 (ax 2) tx, uX8 G (ax 9) (fun _ => ok) vsw, uX2 G ok akd, uX8 G (ad 0) (fun _ => ok) vds, uX0 G (ax 10) ad vd, uX6 G (ax 11) (upn asr 0 ok) vse, uX5 G (ax 12) (upn ar 3 t3) vr, uX9 G (ar 0) adr vdr, imU G im0, imU G none, uX12 G om am vm, uA G 63 (am 0) w, uA G 52 (am 22) nx]) rfl (fun H locs h => ?_)
      refine lv_aload_n C.hx C.hb dL_law_922 rfl (lv_at hl 2 rfl) ?_
      refine lv_aload_n C.hx C.hb dL_law_923 rfl (lv_at hl 0 rfl) ?_
      refine lv_iload_n C.hx C.hb dL_law_924 rfl (lv_at hl 3 rfl) ?_
      refine lv_iconst (v := 1) C.hx C.hb dL_law_925 (by decide) ?_
      refine lv_iadd C.hx C.hb dL_law_926 ?_
      refine va_sld C.hx C.hb hX hbl (Nat.not_le.mpr hbl) h.2.2 hi1 dL_law_927 ?_
      have zmrm := c_X12_from l G om am N (hf := hfm)
      refine g_goI C h zmrm.1 (is := [13, 14]) rfl rfl (g_runV C h (is := [13, 14]) rfl rfl (As := [.int (xs (x3 + 1).toNatClampNeg)]) (rest := [.int (-3)]) (zmrm.2 _) vf_L_130 13 0 rfl rfl hl.1 rfl rfl (Nat.le_of_ble_eq_true rfl) dL_law_928 ⟨Nat.le_of_ble_eq_true rfl, Nat.le_of_ble_eq_true rfl⟩ hcs) (us2 := [uX11 G ox ax (upi vob 7 (vob.1 7 + 1)), uX9 G (ax 0) an vn, uG G (ax 1) f, uA G 200 (ax 2) tx, uX8 G (ax 9) (fun _ => ok) vsw, uX2 G ok akd, uX8 G (ad 0) (fun _ => ok) vds, uX0 G (ax 10) ad vd, uX6 G (ax 11) (upn asr 0 ok) vse, uX5 G (ax 12) (upn ar 3 t3) vr, uX9 G (ar 0) adr vdr, imU G im0, imU G none, uX12 G om am rm.2.1, uA G 63 (am 0) rm.2.2, uA G 52 (am 22) nx]) rfl (fun H locs h => ?_)
      refine lv_icmp_eq (tgt := 996) C.hx C.hb dL_law_931 (by decide) (fun _ => ?_) (fun zc => absurd heq zc)
      refine W.widen (k := cells + 11) (n := slots + 69) (by omega) (by omega) ?_
      exact hE (vob := upi vob 7 (vob.1 7 + 1)) (vn := vn) (vm := rm.2.1) (tx := tx) (w := rm.2.2) (f := f) (im0 := im0) (im1 := none) hI hfd h hl
    · obtain ⟨res, rm, hbl2, hfm, heq, hI⟩ := sim_from_1_some hN hI rfl
      rw [← hk1] at hfm
      refine lv_aload_n C.hx C.hb dL_law_913 rfl (lv_at hl 1 rfl) ?_
      refine lv_aload_n C.hx C.hb dL_law_914 rfl (lv_at hl 0 rfl) ?_
      refine lv_iload_n C.hx C.hb dL_law_915 rfl (lv_at hl 3 rfl) ?_
      refine lv_iconst (v := 1) C.hx C.hb dL_law_916 (by decide) ?_
      refine lv_iadd C.hx C.hb dL_law_917 ?_
      refine va_sld C.hx C.hb hX hbl (Nat.not_le.mpr hbl) h.2.2 hi1 dL_law_918 ?_
      have zmx := c_from_some l G ox ax o_i an a_i (v_t := vob) (f := f) (x1 := xs (x3 + 1).toNatClampNeg) (by rw [hk1]; rfl) (by rw [hk1]; unfold vp_in; decide) (by rw [hk1]; exact hfd.2) hbl2
      refine g_goI C h zmx.1 (is := [0, 2, 1, 12]) rfl rfl (g_runV C h (is := [0, 2, 1, 12]) rfl rfl (As := [.int (xs (x3 + 1).toNatClampNeg)]) (rest := []) (zmx.2 _) vf_L_127 0 0 rfl rfl hl.1 rfl rfl (Nat.le_of_ble_eq_true rfl) dL_law_919 ⟨Nat.le_of_ble_eq_true rfl, Nat.le_of_ble_eq_true rfl⟩ hcs) (us2 := [uX11 G ox ax vob, uX9 G (ax 0) an res, uG G (ax 1) f, uA G 200 (ax 2) tx, uX8 G (ax 9) (fun _ => ok) vsw, uX2 G ok akd, uX8 G (ad 0) (fun _ => ok) vds, uX0 G (ax 10) ad vd, uX6 G (ax 11) (upn asr 0 ok) vse, uX5 G (ax 12) (upn ar 3 t3) vr, uX9 G (ar 0) adr vdr, imU G im0, imU G (some (o_i, a_i, v_i)), uX12 G om am vm, uA G 63 (am 0) w, uA G 52 (am 22) nx]) rfl (fun H locs h => ?_)
      refine lv_aload_n C.hx C.hb dL_law_922 rfl (lv_at hl 2 rfl) ?_
      refine lv_aload_n C.hx C.hb dL_law_923 rfl (lv_at hl 0 rfl) ?_
      refine lv_iload_n C.hx C.hb dL_law_924 rfl (lv_at hl 3 rfl) ?_
      refine lv_iconst (v := 1) C.hx C.hb dL_law_925 (by decide) ?_
      refine lv_iadd C.hx C.hb dL_law_926 ?_
      refine va_sld C.hx C.hb hX hbl (Nat.not_le.mpr hbl) h.2.2 hi1 dL_law_927 ?_
      have zmrm := c_X12_from l G om am N (hf := hfm)
      refine g_goI C h zmrm.1 (is := [13, 14]) rfl rfl (g_runV C h (is := [13, 14]) rfl rfl (As := [.int (xs (x3 + 1).toNatClampNeg)]) (rest := [.int 1]) (zmrm.2 _) vf_L_130 13 0 rfl rfl hl.1 rfl rfl (Nat.le_of_ble_eq_true rfl) dL_law_928 ⟨Nat.le_of_ble_eq_true rfl, Nat.le_of_ble_eq_true rfl⟩ hcs) (us2 := [uX11 G ox ax vob, uX9 G (ax 0) an res, uG G (ax 1) f, uA G 200 (ax 2) tx, uX8 G (ax 9) (fun _ => ok) vsw, uX2 G ok akd, uX8 G (ad 0) (fun _ => ok) vds, uX0 G (ax 10) ad vd, uX6 G (ax 11) (upn asr 0 ok) vse, uX5 G (ax 12) (upn ar 3 t3) vr, uX9 G (ar 0) adr vdr, imU G im0, imU G (some (o_i, a_i, v_i)), uX12 G om am rm.2.1, uA G 63 (am 0) rm.2.2, uA G 52 (am 22) nx]) rfl (fun H locs h => ?_)
      refine lv_icmp_eq (tgt := 996) C.hx C.hb dL_law_931 (by decide) (fun _ => ?_) (fun zc => absurd heq zc)
      refine W.widen (k := cells + 11) (n := slots + 69) (by omega) (by omega) ?_
      exact hE (vob := vob) (vn := res) (vm := rm.2.1) (tx := tx) (w := rm.2.2) (f := f) (im0 := im0) (im1 := some (o_i, a_i, v_i)) hI hfd h hl
  obtain ⟨rm, hfm, heq, hI⟩ := sim_from_bad hN hI hk0 hk1
  refine lv_aload_n C.hx C.hb dL_law_913 rfl (lv_at hl 1 rfl) ?_
  refine lv_aload_n C.hx C.hb dL_law_914 rfl (lv_at hl 0 rfl) ?_
  refine lv_iload_n C.hx C.hb dL_law_915 rfl (lv_at hl 3 rfl) ?_
  refine lv_iconst (v := 1) C.hx C.hb dL_law_916 (by decide) ?_
  refine lv_iadd C.hx C.hb dL_law_917 ?_
  refine va_sld C.hx C.hb hX hbl (Nat.not_le.mpr hbl) h.2.2 hi1 dL_law_918 ?_
  have zmx := c_from_bad l G ox ax (v_t := vob) (x1 := xs (x3 + 1).toNatClampNeg) (wi_bad hk0 hk1)
  refine g_goI C h zmx.1 (is := [0]) rfl rfl (g_runV C h (is := [0]) rfl rfl (As := [.int (xs (x3 + 1).toNatClampNeg)]) (rest := []) (zmx.2 _) vf_L_127 0 0 rfl rfl hl.1 rfl rfl (Nat.le_of_ble_eq_true rfl) dL_law_919 ⟨Nat.le_of_ble_eq_true rfl, Nat.le_of_ble_eq_true rfl⟩ hcs) (us2 := [uX11 G ox ax (upi vob 6 (vob.1 6 + 1)), uX9 G (ax 0) an vn, uG G (ax 1) f, uA G 200 (ax 2) tx, uX8 G (ax 9) (fun _ => ok) vsw, uX2 G ok akd, uX8 G (ad 0) (fun _ => ok) vds, uX0 G (ax 10) ad vd, uX6 G (ax 11) (upn asr 0 ok) vse, uX5 G (ax 12) (upn ar 3 t3) vr, uX9 G (ar 0) adr vdr, imU G im0, imU G im1, uX12 G om am vm, uA G 63 (am 0) w, uA G 52 (am 22) nx]) rfl (fun H locs h => ?_)
  refine lv_aload_n C.hx C.hb dL_law_922 rfl (lv_at hl 2 rfl) ?_
  refine lv_aload_n C.hx C.hb dL_law_923 rfl (lv_at hl 0 rfl) ?_
  refine lv_iload_n C.hx C.hb dL_law_924 rfl (lv_at hl 3 rfl) ?_
  refine lv_iconst (v := 1) C.hx C.hb dL_law_925 (by decide) ?_
  refine lv_iadd C.hx C.hb dL_law_926 ?_
  refine va_sld C.hx C.hb hX hbl (Nat.not_le.mpr hbl) h.2.2 hi1 dL_law_927 ?_
  have zmrm := c_X12_from l G om am N (hf := hfm)
  refine g_goI C h zmrm.1 (is := [13, 14]) rfl rfl (g_runV C h (is := [13, 14]) rfl rfl (As := [.int (xs (x3 + 1).toNatClampNeg)]) (rest := [.int (-2)]) (zmrm.2 _) vf_L_130 13 0 rfl rfl hl.1 rfl rfl (Nat.le_of_ble_eq_true rfl) dL_law_928 ⟨Nat.le_of_ble_eq_true rfl, Nat.le_of_ble_eq_true rfl⟩ hcs) (us2 := [uX11 G ox ax (upi vob 6 (vob.1 6 + 1)), uX9 G (ax 0) an vn, uG G (ax 1) f, uA G 200 (ax 2) tx, uX8 G (ax 9) (fun _ => ok) vsw, uX2 G ok akd, uX8 G (ad 0) (fun _ => ok) vds, uX0 G (ax 10) ad vd, uX6 G (ax 11) (upn asr 0 ok) vse, uX5 G (ax 12) (upn ar 3 t3) vr, uX9 G (ar 0) adr vdr, imU G im0, imU G im1, uX12 G om am rm.2.1, uA G 63 (am 0) rm.2.2, uA G 52 (am 22) nx]) rfl (fun H locs h => ?_)
  refine lv_icmp_eq (tgt := 996) C.hx C.hb dL_law_931 (by decide) (fun _ => ?_) (fun zc => absurd heq zc)
  refine W.widen (k := cells + 11) (n := slots + 69) (by omega) (by omega) ?_
  exact hE (vob := upi vob 6 (vob.1 6 + 1)) (vn := vn) (vm := rm.2.1) (tx := tx) (w := rm.2.2) (f := f) (im0 := im0) (im1 := im1) hI hfd h hl
