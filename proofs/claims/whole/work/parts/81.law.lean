set_option maxRecDepth 100000 in
set_option maxHeartbeats 4000000 in
theorem lc_thing {p : Program} {l : Launch} {e : Env} {s : State} {m : MethodId} {below : List Frame} {meth : Method} {c : Code} {G : GG} {b L : Nat} {xs : Nat → Int32} {ox om ok : Nat} {ax an akd ad asr ar adr am : Nat → Nat} {N : Nat} {vob : US} {vn : US} {vsw : US} {vds : US} {vd : US} {vse : US} {vr : US} {vdr : US} {vm : US} {tx : Nat → Int32} {w : Nat → Int32} {nx : Nat → Int32} {t3 : Nat} {f : Nat → Option Nat} {im0 : Option (Nat × (Nat → Nat) × US)} {im1 : Option (Nat × (Nat → Nat) × US)} {cells slots : Nat} {Q : State → Prop} {x3 : Int32} (hN : 200000 ≤ N) (C : MC RL code 4 ret G (fun q : Nat => s.heap.size ≤ q) p s m #[Value.ref b] meth c) (hX : va_X b L xs s s.heap) (hbl : b < s.heap.size) (hcs : cells ≤ room_1.cells ∧ slots ≤ room_1.slots) (hcj : cells + 11 ≤ room_1.cells ∧ slots + 69 ≤ room_1.slots) (hi1 : vp_in (x3 + 1) L) (hi2 : vp_in (x3 + 2) L) (hi3 : vp_in (x3 + 3) L) (hi4 : vp_in (x3 + 4) L) (hE : ∀ {vob : US} {vn : US} {vsw : US} {vds : US} {vd : US} {vse : US} {vr : US} {vdr : US} {vm : US} {tx : Nat → Int32} {w : Nat → Int32} {nx : Nat → Int32} {t3 : Nat} {f : Nat → Option Nat} {im0 : Option (Nat × (Nat → Nat) × US)} {im1 : Option (Nat × (Nat → Nat) × US)} {H : Heap} {locs : List Loc} {ls : Array Slot}, Inv vob vn tx (im0.map fun q => q.2.2) (im1.map fun q => q.2.2) vm w → (f 0 = im0.map fun q => q.1) ∧ (f 1 = im1.map fun q => q.1) → HP G (fun q : Nat => s.heap.size ≤ q) s [uX11 G ox ax vob, uX9 G (ax 0) an vn, uG G (ax 1) f, uA G 200 (ax 2) tx, uX8 G (ax 9) (fun _ => ok) vsw, uX2 G ok akd, uX8 G (ad 0) (fun _ => ok) vds, uX0 G (ax 10) ad vd, uX6 G (ax 11) (upn asr 0 ok) vse, uX5 G (ax 12) (upn ar 3 t3) vr, uX9 G (ar 0) adr vdr, imU G im0, imU G im1, uX12 G om am vm, uA G 63 (am 0) w, uA G 52 (am 22) nx] H locs → lv_has ls 4 [(0, .ref b), (1, .ref ox), (2, .ref om), (3, .int x3)] → W p l e room_1 s m #[Value.ref b] below meth c H locs (cells + 11) (slots + 69) Q (F0 m 996 ls [])) (hI : Inv vob vn tx (im0.map fun q => q.2.2) (im1.map fun q => q.2.2) vm w) (hfd : (f 0 = im0.map fun q => q.1) ∧ (f 1 = im1.map fun q => q.1)) {H : Heap} {locs : List Loc} {ls : Array Slot} (h : HP G (fun q : Nat => s.heap.size ≤ q) s [uX11 G ox ax vob, uX9 G (ax 0) an vn, uG G (ax 1) f, uA G 200 (ax 2) tx, uX8 G (ax 9) (fun _ => ok) vsw, uX2 G ok akd, uX8 G (ad 0) (fun _ => ok) vds, uX0 G (ax 10) ad vd, uX6 G (ax 11) (upn asr 0 ok) vse, uX5 G (ax 12) (upn ar 3 t3) vr, uX9 G (ar 0) adr vdr, imU G im0, imU G im1, uX12 G om am vm, uA G 63 (am 0) w, uA G 52 (am 22) nx] H locs) (hl : lv_has ls 4 [(0, .ref b), (1, .ref ox), (2, .ref om), (3, .int x3)]) : W p l e room_1 s m #[Value.ref b] below meth c H locs cells slots Q (F0 m 168 ls []) := by
  refine lv_aload_n C.hx C.hb dL_law_168 rfl (lv_at hl 1 rfl) ?_
  refine lv_aload_n C.hx C.hb dL_law_169 rfl (lv_at hl 0 rfl) ?_
  refine lv_iload_n C.hx C.hb dL_law_170 rfl (lv_at hl 3 rfl) ?_
  refine lv_iconst (v := 1) C.hx C.hb dL_law_171 (by decide) ?_
  refine lv_iadd C.hx C.hb dL_law_172 ?_
  refine va_sld C.hx C.hb hX hbl (Nat.not_le.mpr hbl) h.2.2 hi1 dL_law_173 ?_
  refine lv_aload_n C.hx C.hb dL_law_174 rfl (lv_at hl 0 rfl) ?_
  refine lv_iload_n C.hx C.hb dL_law_175 rfl (lv_at hl 3 rfl) ?_
  refine lv_iconst (v := 2) C.hx C.hb dL_law_176 (by decide) ?_
  refine lv_iadd C.hx C.hb dL_law_177 ?_
  refine va_sld C.hx C.hb hX hbl (Nat.not_le.mpr hbl) h.2.2 hi2 dL_law_178 ?_
  refine lv_aload_n C.hx C.hb dL_law_179 rfl (lv_at hl 0 rfl) ?_
  refine lv_iload_n C.hx C.hb dL_law_180 rfl (lv_at hl 3 rfl) ?_
  refine lv_iconst (v := 3) C.hx C.hb dL_law_181 (by decide) ?_
  refine lv_iadd C.hx C.hb dL_law_182 ?_
  refine va_sld C.hx C.hb hX hbl (Nat.not_le.mpr hbl) h.2.2 hi3 dL_law_183 ?_
  refine lv_aload_n C.hx C.hb dL_law_184 rfl (lv_at hl 0 rfl) ?_
  refine lv_iload_n C.hx C.hb dL_law_185 rfl (lv_at hl 3 rfl) ?_
  refine lv_iconst (v := 4) C.hx C.hb dL_law_186 (by decide) ?_
  refine lv_iadd C.hx C.hb dL_law_187 ?_
  refine va_sld C.hx C.hb hX hbl (Nat.not_le.mpr hbl) h.2.2 hi4 dL_law_188 ?_
  obtain ⟨rx, rm, hfx, hfm, heq, hI⟩ := sim_thing hN hI (xs (x3 + 1).toNatClampNeg) (xs (x3 + 2).toNatClampNeg) (xs (x3 + 3).toNatClampNeg) (xs (x3 + 4).toNatClampNeg)
  have zmrx := c_X11_thing l G ox ax an (hf := hfx)
  refine g_goI C h zmrx.1 (is := [0, 1]) rfl rfl (g_runV C h (is := [0, 1]) rfl rfl (As := [.int (xs (x3 + 1).toNatClampNeg), .int (xs (x3 + 2).toNatClampNeg), .int (xs (x3 + 3).toNatClampNeg), .int (xs (x3 + 4).toNatClampNeg)]) (rest := []) (zmrx.2 _) vf_L_13 0 0 rfl rfl hl.1 rfl rfl (Nat.le_of_ble_eq_true rfl) dL_law_189 ⟨Nat.le_of_ble_eq_true rfl, Nat.le_of_ble_eq_true rfl⟩ hcs) (us2 := [uX11 G ox ax rx.2.1, uX9 G (ax 0) an rx.2.2, uG G (ax 1) f, uA G 200 (ax 2) tx, uX8 G (ax 9) (fun _ => ok) vsw, uX2 G ok akd, uX8 G (ad 0) (fun _ => ok) vds, uX0 G (ax 10) ad vd, uX6 G (ax 11) (upn asr 0 ok) vse, uX5 G (ax 12) (upn ar 3 t3) vr, uX9 G (ar 0) adr vdr, imU G im0, imU G im1, uX12 G om am vm, uA G 63 (am 0) w, uA G 52 (am 22) nx]) rfl (fun H locs h => ?_)
  refine lv_aload_n C.hx C.hb dL_law_192 rfl (lv_at hl 2 rfl) ?_
  refine lv_aload_n C.hx C.hb dL_law_193 rfl (lv_at hl 0 rfl) ?_
  refine lv_iload_n C.hx C.hb dL_law_194 rfl (lv_at hl 3 rfl) ?_
  refine lv_iconst (v := 1) C.hx C.hb dL_law_195 (by decide) ?_
  refine lv_iadd C.hx C.hb dL_law_196 ?_
  refine va_sld C.hx C.hb hX hbl (Nat.not_le.mpr hbl) h.2.2 hi1 dL_law_197 ?_
  refine lv_aload_n C.hx C.hb dL_law_198 rfl (lv_at hl 0 rfl) ?_
  refine lv_iload_n C.hx C.hb dL_law_199 rfl (lv_at hl 3 rfl) ?_
  refine lv_iconst (v := 2) C.hx C.hb dL_law_200 (by decide) ?_
  refine lv_iadd C.hx C.hb dL_law_201 ?_
  refine va_sld C.hx C.hb hX hbl (Nat.not_le.mpr hbl) h.2.2 hi2 dL_law_202 ?_
  refine lv_aload_n C.hx C.hb dL_law_203 rfl (lv_at hl 0 rfl) ?_
  refine lv_iload_n C.hx C.hb dL_law_204 rfl (lv_at hl 3 rfl) ?_
  refine lv_iconst (v := 3) C.hx C.hb dL_law_205 (by decide) ?_
  refine lv_iadd C.hx C.hb dL_law_206 ?_
  refine va_sld C.hx C.hb hX hbl (Nat.not_le.mpr hbl) h.2.2 hi3 dL_law_207 ?_
  refine lv_aload_n C.hx C.hb dL_law_208 rfl (lv_at hl 0 rfl) ?_
  refine lv_iload_n C.hx C.hb dL_law_209 rfl (lv_at hl 3 rfl) ?_
  refine lv_iconst (v := 4) C.hx C.hb dL_law_210 (by decide) ?_
  refine lv_iadd C.hx C.hb dL_law_211 ?_
  refine va_sld C.hx C.hb hX hbl (Nat.not_le.mpr hbl) h.2.2 hi4 dL_law_212 ?_
  have zmrm := c_X12_thing l G om am (hf := hfm)
  refine g_goI C h zmrm.1 (is := [13, 14]) rfl rfl (g_runV C h (is := [13, 14]) rfl rfl (As := [.int (xs (x3 + 1).toNatClampNeg), .int (xs (x3 + 2).toNatClampNeg), .int (xs (x3 + 3).toNatClampNeg), .int (xs (x3 + 4).toNatClampNeg)]) (rest := [.int rx.1]) (zmrm.2 _) vf_L_17 13 0 rfl rfl hl.1 rfl rfl (Nat.le_of_ble_eq_true rfl) dL_law_213 ⟨Nat.le_of_ble_eq_true rfl, Nat.le_of_ble_eq_true rfl⟩ hcs) (us2 := [uX11 G ox ax rx.2.1, uX9 G (ax 0) an rx.2.2, uG G (ax 1) f, uA G 200 (ax 2) tx, uX8 G (ax 9) (fun _ => ok) vsw, uX2 G ok akd, uX8 G (ad 0) (fun _ => ok) vds, uX0 G (ax 10) ad vd, uX6 G (ax 11) (upn asr 0 ok) vse, uX5 G (ax 12) (upn ar 3 t3) vr, uX9 G (ar 0) adr vdr, imU G im0, imU G im1, uX12 G om am rm.2.1, uA G 63 (am 0) rm.2.2, uA G 52 (am 22) nx]) rfl (fun H locs h => ?_)
  refine lv_icmp_eq (tgt := 996) C.hx C.hb dL_law_216 (by decide) (fun _ => ?_) (fun zc => absurd heq zc)
  refine W.widen (k := cells + 11) (n := slots + 69) (by omega) (by omega) ?_
  exact hE hI hfd h hl
set_option maxRecDepth 100000 in
set_option maxHeartbeats 4000000 in
theorem lc_rope {p : Program} {l : Launch} {e : Env} {s : State} {m : MethodId} {below : List Frame} {meth : Method} {c : Code} {G : GG} {b L : Nat} {xs : Nat → Int32} {ox om ok : Nat} {ax an akd ad asr ar adr am : Nat → Nat} {N : Nat} {vob : US} {vn : US} {vsw : US} {vds : US} {vd : US} {vse : US} {vr : US} {vdr : US} {vm : US} {tx : Nat → Int32} {w : Nat → Int32} {nx : Nat → Int32} {t3 : Nat} {f : Nat → Option Nat} {im0 : Option (Nat × (Nat → Nat) × US)} {im1 : Option (Nat × (Nat → Nat) × US)} {cells slots : Nat} {Q : State → Prop} {x3 : Int32} (hN : 200000 ≤ N) (C : MC RL code 4 ret G (fun q : Nat => s.heap.size ≤ q) p s m #[Value.ref b] meth c) (hX : va_X b L xs s s.heap) (hbl : b < s.heap.size) (hcs : cells ≤ room_1.cells ∧ slots ≤ room_1.slots) (hcj : cells + 11 ≤ room_1.cells ∧ slots + 69 ≤ room_1.slots) (hi1 : vp_in (x3 + 1) L) (hi2 : vp_in (x3 + 2) L) (hi3 : vp_in (x3 + 3) L) (hi4 : vp_in (x3 + 4) L) (hE : ∀ {vob : US} {vn : US} {vsw : US} {vds : US} {vd : US} {vse : US} {vr : US} {vdr : US} {vm : US} {tx : Nat → Int32} {w : Nat → Int32} {nx : Nat → Int32} {t3 : Nat} {f : Nat → Option Nat} {im0 : Option (Nat × (Nat → Nat) × US)} {im1 : Option (Nat × (Nat → Nat) × US)} {H : Heap} {locs : List Loc} {ls : Array Slot}, Inv vob vn tx (im0.map fun q => q.2.2) (im1.map fun q => q.2.2) vm w → (f 0 = im0.map fun q => q.1) ∧ (f 1 = im1.map fun q => q.1) → HP G (fun q : Nat => s.heap.size ≤ q) s [uX11 G ox ax vob, uX9 G (ax 0) an vn, uG G (ax 1) f, uA G 200 (ax 2) tx, uX8 G (ax 9) (fun _ => ok) vsw, uX2 G ok akd, uX8 G (ad 0) (fun _ => ok) vds, uX0 G (ax 10) ad vd, uX6 G (ax 11) (upn asr 0 ok) vse, uX5 G (ax 12) (upn ar 3 t3) vr, uX9 G (ar 0) adr vdr, imU G im0, imU G im1, uX12 G om am vm, uA G 63 (am 0) w, uA G 52 (am 22) nx] H locs → lv_has ls 4 [(0, .ref b), (1, .ref ox), (2, .ref om), (3, .int x3)] → W p l e room_1 s m #[Value.ref b] below meth c H locs (cells + 11) (slots + 69) Q (F0 m 996 ls [])) (hI : Inv vob vn tx (im0.map fun q => q.2.2) (im1.map fun q => q.2.2) vm w) (hfd : (f 0 = im0.map fun q => q.1) ∧ (f 1 = im1.map fun q => q.1)) {H : Heap} {locs : List Loc} {ls : Array Slot} (h : HP G (fun q : Nat => s.heap.size ≤ q) s [uX11 G ox ax vob, uX9 G (ax 0) an vn, uG G (ax 1) f, uA G 200 (ax 2) tx, uX8 G (ax 9) (fun _ => ok) vsw, uX2 G ok akd, uX8 G (ad 0) (fun _ => ok) vds, uX0 G (ax 10) ad vd, uX6 G (ax 11) (upn asr 0 ok) vse, uX5 G (ax 12) (upn ar 3 t3) vr, uX9 G (ar 0) adr vdr, imU G im0, imU G im1, uX12 G om am vm, uA G 63 (am 0) w, uA G 52 (am 22) nx] H locs) (hl : lv_has ls 4 [(0, .ref b), (1, .ref ox), (2, .ref om), (3, .int x3)]) : W p l e room_1 s m #[Value.ref b] below meth c H locs cells slots Q (F0 m 221 ls []) := by
  by_cases hz : xs (x3 + 2).toNatClampNeg = 0
  · refine lv_aload_n C.hx C.hb dL_law_221 rfl (lv_at hl 1 rfl) ?_
    refine lv_aload_n C.hx C.hb dL_law_222 rfl (lv_at hl 0 rfl) ?_
    refine lv_iload_n C.hx C.hb dL_law_223 rfl (lv_at hl 3 rfl) ?_
    refine lv_iconst (v := 1) C.hx C.hb dL_law_224 (by decide) ?_
    refine lv_iadd C.hx C.hb dL_law_225 ?_
    refine va_sld C.hx C.hb hX hbl (Nat.not_le.mpr hbl) h.2.2 hi1 dL_law_226 ?_
    refine lv_aload_n C.hx C.hb dL_law_227 rfl (lv_at hl 0 rfl) ?_
    refine lv_iload_n C.hx C.hb dL_law_228 rfl (lv_at hl 3 rfl) ?_
    refine lv_iconst (v := 2) C.hx C.hb dL_law_229 (by decide) ?_
    refine lv_iadd C.hx C.hb dL_law_230 ?_
    refine va_sld C.hx C.hb hX hbl (Nat.not_le.mpr hbl) h.2.2 hi2 dL_law_231 ?_
    refine lv_if_eq (tgt := 239) C.hx C.hb dL_law_232 (by decide) (fun _ => ?_) (fun zc => absurd hz zc)
    refine lv_iconst (v := 0) C.hx C.hb dL_law_239 (by decide) ?_
    obtain ⟨rx, rm, hfx, hfm, heq, hI⟩ := sim_rope hN hI (xs (x3 + 1).toNatClampNeg) false
    have zmrx := c_X11_rope l G ox ax an (hf := hfx)
    refine g_goI C h zmrx.1 (is := [0, 1]) rfl rfl (g_runV C h (is := [0, 1]) rfl rfl (As := [.int (xs (x3 + 1).toNatClampNeg), .int 0]) (rest := []) (zmrx.2 _) vf_L_18 0 0 rfl rfl hl.1 rfl rfl (Nat.le_of_ble_eq_true rfl) dL_law_240 ⟨Nat.le_of_ble_eq_true rfl, Nat.le_of_ble_eq_true rfl⟩ hcs) (us2 := [uX11 G ox ax rx.2.1, uX9 G (ax 0) an rx.2.2, uG G (ax 1) f, uA G 200 (ax 2) tx, uX8 G (ax 9) (fun _ => ok) vsw, uX2 G ok akd, uX8 G (ad 0) (fun _ => ok) vds, uX0 G (ax 10) ad vd, uX6 G (ax 11) (upn asr 0 ok) vse, uX5 G (ax 12) (upn ar 3 t3) vr, uX9 G (ar 0) adr vdr, imU G im0, imU G im1, uX12 G om am vm, uA G 63 (am 0) w, uA G 52 (am 22) nx]) rfl (fun H locs h => ?_)
    refine lv_aload_n C.hx C.hb dL_law_243 rfl (lv_at hl 2 rfl) ?_
    refine lv_aload_n C.hx C.hb dL_law_244 rfl (lv_at hl 0 rfl) ?_
    refine lv_iload_n C.hx C.hb dL_law_245 rfl (lv_at hl 3 rfl) ?_
    refine lv_iconst (v := 1) C.hx C.hb dL_law_246 (by decide) ?_
    refine lv_iadd C.hx C.hb dL_law_247 ?_
    refine va_sld C.hx C.hb hX hbl (Nat.not_le.mpr hbl) h.2.2 hi1 dL_law_248 ?_
    refine lv_aload_n C.hx C.hb dL_law_249 rfl (lv_at hl 0 rfl) ?_
    refine lv_iload_n C.hx C.hb dL_law_250 rfl (lv_at hl 3 rfl) ?_
    refine lv_iconst (v := 2) C.hx C.hb dL_law_251 (by decide) ?_
    refine lv_iadd C.hx C.hb dL_law_252 ?_
    refine va_sld C.hx C.hb hX hbl (Nat.not_le.mpr hbl) h.2.2 hi2 dL_law_253 ?_
    refine lv_if_eq (tgt := 261) C.hx C.hb dL_law_254 (by decide) (fun _ => ?_) (fun zc => absurd hz zc)
    refine lv_iconst (v := 0) C.hx C.hb dL_law_261 (by decide) ?_
    have zmrm := c_X12_rope l G om am (hf := hfm)
    refine g_goI C h zmrm.1 (is := [13, 14]) rfl rfl (g_runV C h (is := [13, 14]) rfl rfl (As := [.int (xs (x3 + 1).toNatClampNeg), .int 0]) (rest := [.int rx.1]) (zmrm.2 _) vf_L_22 13 0 rfl rfl hl.1 rfl rfl (Nat.le_of_ble_eq_true rfl) dL_law_262 ⟨Nat.le_of_ble_eq_true rfl, Nat.le_of_ble_eq_true rfl⟩ hcs) (us2 := [uX11 G ox ax rx.2.1, uX9 G (ax 0) an rx.2.2, uG G (ax 1) f, uA G 200 (ax 2) tx, uX8 G (ax 9) (fun _ => ok) vsw, uX2 G ok akd, uX8 G (ad 0) (fun _ => ok) vds, uX0 G (ax 10) ad vd, uX6 G (ax 11) (upn asr 0 ok) vse, uX5 G (ax 12) (upn ar 3 t3) vr, uX9 G (ar 0) adr vdr, imU G im0, imU G im1, uX12 G om am rm.2.1, uA G 63 (am 0) rm.2.2, uA G 52 (am 22) nx]) rfl (fun H locs h => ?_)
    refine lv_icmp_eq (tgt := 996) C.hx C.hb dL_law_265 (by decide) (fun _ => ?_) (fun zc => absurd heq zc)
    refine W.widen (k := cells + 11) (n := slots + 69) (by omega) (by omega) ?_
    exact hE hI hfd h hl
  · refine lv_aload_n C.hx C.hb dL_law_221 rfl (lv_at hl 1 rfl) ?_
    refine lv_aload_n C.hx C.hb dL_law_222 rfl (lv_at hl 0 rfl) ?_
    refine lv_iload_n C.hx C.hb dL_law_223 rfl (lv_at hl 3 rfl) ?_
    refine lv_iconst (v := 1) C.hx C.hb dL_law_224 (by decide) ?_
    refine lv_iadd C.hx C.hb dL_law_225 ?_
    refine va_sld C.hx C.hb hX hbl (Nat.not_le.mpr hbl) h.2.2 hi1 dL_law_226 ?_
    refine lv_aload_n C.hx C.hb dL_law_227 rfl (lv_at hl 0 rfl) ?_
    refine lv_iload_n C.hx C.hb dL_law_228 rfl (lv_at hl 3 rfl) ?_
    refine lv_iconst (v := 2) C.hx C.hb dL_law_229 (by decide) ?_
    refine lv_iadd C.hx C.hb dL_law_230 ?_
    refine va_sld C.hx C.hb hX hbl (Nat.not_le.mpr hbl) h.2.2 hi2 dL_law_231 ?_
    refine lv_if_eq (tgt := 239) C.hx C.hb dL_law_232 (by decide) (fun zc => absurd zc hz) (fun _ => ?_)
    refine lv_iconst (v := 1) C.hx C.hb dL_law_235 (by decide) ?_
    refine lv_goto (tgt := 240) C.hx C.hb dL_law_236 (by decide) ?_
    obtain ⟨rx, rm, hfx, hfm, heq, hI⟩ := sim_rope hN hI (xs (x3 + 1).toNatClampNeg) true
    have zmrx := c_X11_rope l G ox ax an (hf := hfx)
    refine g_goI C h zmrx.1 (is := [0, 1]) rfl rfl (g_runV C h (is := [0, 1]) rfl rfl (As := [.int (xs (x3 + 1).toNatClampNeg), .int 1]) (rest := []) (zmrx.2 _) vf_L_18 0 0 rfl rfl hl.1 rfl rfl (Nat.le_of_ble_eq_true rfl) dL_law_240 ⟨Nat.le_of_ble_eq_true rfl, Nat.le_of_ble_eq_true rfl⟩ hcs) (us2 := [uX11 G ox ax rx.2.1, uX9 G (ax 0) an rx.2.2, uG G (ax 1) f, uA G 200 (ax 2) tx, uX8 G (ax 9) (fun _ => ok) vsw, uX2 G ok akd, uX8 G (ad 0) (fun _ => ok) vds, uX0 G (ax 10) ad vd, uX6 G (ax 11) (upn asr 0 ok) vse, uX5 G (ax 12) (upn ar 3 t3) vr, uX9 G (ar 0) adr vdr, imU G im0, imU G im1, uX12 G om am vm, uA G 63 (am 0) w, uA G 52 (am 22) nx]) rfl (fun H locs h => ?_)
    refine lv_aload_n C.hx C.hb dL_law_243 rfl (lv_at hl 2 rfl) ?_
    refine lv_aload_n C.hx C.hb dL_law_244 rfl (lv_at hl 0 rfl) ?_
    refine lv_iload_n C.hx C.hb dL_law_245 rfl (lv_at hl 3 rfl) ?_
    refine lv_iconst (v := 1) C.hx C.hb dL_law_246 (by decide) ?_
    refine lv_iadd C.hx C.hb dL_law_247 ?_
    refine va_sld C.hx C.hb hX hbl (Nat.not_le.mpr hbl) h.2.2 hi1 dL_law_248 ?_
    refine lv_aload_n C.hx C.hb dL_law_249 rfl (lv_at hl 0 rfl) ?_
    refine lv_iload_n C.hx C.hb dL_law_250 rfl (lv_at hl 3 rfl) ?_
    refine lv_iconst (v := 2) C.hx C.hb dL_law_251 (by decide) ?_
    refine lv_iadd C.hx C.hb dL_law_252 ?_
    refine va_sld C.hx C.hb hX hbl (Nat.not_le.mpr hbl) h.2.2 hi2 dL_law_253 ?_
    refine lv_if_eq (tgt := 261) C.hx C.hb dL_law_254 (by decide) (fun zc => absurd zc hz) (fun _ => ?_)
    refine lv_iconst (v := 1) C.hx C.hb dL_law_257 (by decide) ?_
    refine lv_goto (tgt := 262) C.hx C.hb dL_law_258 (by decide) ?_
    have zmrm := c_X12_rope l G om am (hf := hfm)
    refine g_goI C h zmrm.1 (is := [13, 14]) rfl rfl (g_runV C h (is := [13, 14]) rfl rfl (As := [.int (xs (x3 + 1).toNatClampNeg), .int 1]) (rest := [.int rx.1]) (zmrm.2 _) vf_L_22 13 0 rfl rfl hl.1 rfl rfl (Nat.le_of_ble_eq_true rfl) dL_law_262 ⟨Nat.le_of_ble_eq_true rfl, Nat.le_of_ble_eq_true rfl⟩ hcs) (us2 := [uX11 G ox ax rx.2.1, uX9 G (ax 0) an rx.2.2, uG G (ax 1) f, uA G 200 (ax 2) tx, uX8 G (ax 9) (fun _ => ok) vsw, uX2 G ok akd, uX8 G (ad 0) (fun _ => ok) vds, uX0 G (ax 10) ad vd, uX6 G (ax 11) (upn asr 0 ok) vse, uX5 G (ax 12) (upn ar 3 t3) vr, uX9 G (ar 0) adr vdr, imU G im0, imU G im1, uX12 G om am rm.2.1, uA G 63 (am 0) rm.2.2, uA G 52 (am 22) nx]) rfl (fun H locs h => ?_)
    refine lv_icmp_eq (tgt := 996) C.hx C.hb dL_law_265 (by decide) (fun _ => ?_) (fun zc => absurd heq zc)
    refine W.widen (k := cells + 11) (n := slots + 69) (by omega) (by omega) ?_
    exact hE hI hfd h hl
set_option maxRecDepth 100000 in
set_option maxHeartbeats 4000000 in
theorem lc_damp {p : Program} {l : Launch} {e : Env} {s : State} {m : MethodId} {below : List Frame} {meth : Method} {c : Code} {G : GG} {b L : Nat} {xs : Nat → Int32} {ox om ok : Nat} {ax an akd ad asr ar adr am : Nat → Nat} {N : Nat} {vob : US} {vn : US} {vsw : US} {vds : US} {vd : US} {vse : US} {vr : US} {vdr : US} {vm : US} {tx : Nat → Int32} {w : Nat → Int32} {nx : Nat → Int32} {t3 : Nat} {f : Nat → Option Nat} {im0 : Option (Nat × (Nat → Nat) × US)} {im1 : Option (Nat × (Nat → Nat) × US)} {cells slots : Nat} {Q : State → Prop} {x3 : Int32} (hN : 200000 ≤ N) (C : MC RL code 4 ret G (fun q : Nat => s.heap.size ≤ q) p s m #[Value.ref b] meth c) (hX : va_X b L xs s s.heap) (hbl : b < s.heap.size) (hcs : cells ≤ room_1.cells ∧ slots ≤ room_1.slots) (hcj : cells + 11 ≤ room_1.cells ∧ slots + 69 ≤ room_1.slots) (hi1 : vp_in (x3 + 1) L) (hi2 : vp_in (x3 + 2) L) (hi3 : vp_in (x3 + 3) L) (hi4 : vp_in (x3 + 4) L) (hE : ∀ {vob : US} {vn : US} {vsw : US} {vds : US} {vd : US} {vse : US} {vr : US} {vdr : US} {vm : US} {tx : Nat → Int32} {w : Nat → Int32} {nx : Nat → Int32} {t3 : Nat} {f : Nat → Option Nat} {im0 : Option (Nat × (Nat → Nat) × US)} {im1 : Option (Nat × (Nat → Nat) × US)} {H : Heap} {locs : List Loc} {ls : Array Slot}, Inv vob vn tx (im0.map fun q => q.2.2) (im1.map fun q => q.2.2) vm w → (f 0 = im0.map fun q => q.1) ∧ (f 1 = im1.map fun q => q.1) → HP G (fun q : Nat => s.heap.size ≤ q) s [uX11 G ox ax vob, uX9 G (ax 0) an vn, uG G (ax 1) f, uA G 200 (ax 2) tx, uX8 G (ax 9) (fun _ => ok) vsw, uX2 G ok akd, uX8 G (ad 0) (fun _ => ok) vds, uX0 G (ax 10) ad vd, uX6 G (ax 11) (upn asr 0 ok) vse, uX5 G (ax 12) (upn ar 3 t3) vr, uX9 G (ar 0) adr vdr, imU G im0, imU G im1, uX12 G om am vm, uA G 63 (am 0) w, uA G 52 (am 22) nx] H locs → lv_has ls 4 [(0, .ref b), (1, .ref ox), (2, .ref om), (3, .int x3)] → W p l e room_1 s m #[Value.ref b] below meth c H locs (cells + 11) (slots + 69) Q (F0 m 996 ls [])) (hI : Inv vob vn tx (im0.map fun q => q.2.2) (im1.map fun q => q.2.2) vm w) (hfd : (f 0 = im0.map fun q => q.1) ∧ (f 1 = im1.map fun q => q.1)) {H : Heap} {locs : List Loc} {ls : Array Slot} (h : HP G (fun q : Nat => s.heap.size ≤ q) s [uX11 G ox ax vob, uX9 G (ax 0) an vn, uG G (ax 1) f, uA G 200 (ax 2) tx, uX8 G (ax 9) (fun _ => ok) vsw, uX2 G ok akd, uX8 G (ad 0) (fun _ => ok) vds, uX0 G (ax 10) ad vd, uX6 G (ax 11) (upn asr 0 ok) vse, uX5 G (ax 12) (upn ar 3 t3) vr, uX9 G (ar 0) adr vdr, imU G im0, imU G im1, uX12 G om am vm, uA G 63 (am 0) w, uA G 52 (am 22) nx] H locs) (hl : lv_has ls 4 [(0, .ref b), (1, .ref ox), (2, .ref om), (3, .int x3)]) : W p l e room_1 s m #[Value.ref b] below meth c H locs cells slots Q (F0 m 270 ls []) := by
  refine lv_aload_n C.hx C.hb dL_law_270 rfl (lv_at hl 1 rfl) ?_
  refine lv_aload_n C.hx C.hb dL_law_271 rfl (lv_at hl 0 rfl) ?_
  refine lv_iload_n C.hx C.hb dL_law_272 rfl (lv_at hl 3 rfl) ?_
  refine lv_iconst (v := 1) C.hx C.hb dL_law_273 (by decide) ?_
  refine lv_iadd C.hx C.hb dL_law_274 ?_
  refine va_sld C.hx C.hb hX hbl (Nat.not_le.mpr hbl) h.2.2 hi1 dL_law_275 ?_
  obtain ⟨rx, rm, hfx, hfm, heq, hI⟩ := sim_damp hN hI (xs (x3 + 1).toNatClampNeg)
  have zmrx := c_X11_damp l G ox ax an (hf := hfx)
  refine g_goI C h zmrx.1 (is := [0, 1]) rfl rfl (g_runV C h (is := [0, 1]) rfl rfl (As := [.int (xs (x3 + 1).toNatClampNeg)]) (rest := []) (zmrx.2 _) vf_L_23 0 0 rfl rfl hl.1 rfl rfl (Nat.le_of_ble_eq_true rfl) dL_law_276 ⟨Nat.le_of_ble_eq_true rfl, Nat.le_of_ble_eq_true rfl⟩ hcs) (us2 := [uX11 G ox ax rx.2.1, uX9 G (ax 0) an rx.2.2, uG G (ax 1) f, uA G 200 (ax 2) tx, uX8 G (ax 9) (fun _ => ok) vsw, uX2 G ok akd, uX8 G (ad 0) (fun _ => ok) vds, uX0 G (ax 10) ad vd, uX6 G (ax 11) (upn asr 0 ok) vse, uX5 G (ax 12) (upn ar 3 t3) vr, uX9 G (ar 0) adr vdr, imU G im0, imU G im1, uX12 G om am vm, uA G 63 (am 0) w, uA G 52 (am 22) nx]) rfl (fun H locs h => ?_)
  refine lv_aload_n C.hx C.hb dL_law_279 rfl (lv_at hl 2 rfl) ?_
  refine lv_aload_n C.hx C.hb dL_law_280 rfl (lv_at hl 0 rfl) ?_
  refine lv_iload_n C.hx C.hb dL_law_281 rfl (lv_at hl 3 rfl) ?_
  refine lv_iconst (v := 1) C.hx C.hb dL_law_282 (by decide) ?_
  refine lv_iadd C.hx C.hb dL_law_283 ?_
  refine va_sld C.hx C.hb hX hbl (Nat.not_le.mpr hbl) h.2.2 hi1 dL_law_284 ?_
  have zmrm := c_X12_damp l G om am (hf := hfm)
  refine g_goI C h zmrm.1 (is := [13, 14]) rfl rfl (g_runV C h (is := [13, 14]) rfl rfl (As := [.int (xs (x3 + 1).toNatClampNeg)]) (rest := [.int rx.1]) (zmrm.2 _) vf_L_27 13 0 rfl rfl hl.1 rfl rfl (Nat.le_of_ble_eq_true rfl) dL_law_285 ⟨Nat.le_of_ble_eq_true rfl, Nat.le_of_ble_eq_true rfl⟩ hcs) (us2 := [uX11 G ox ax rx.2.1, uX9 G (ax 0) an rx.2.2, uG G (ax 1) f, uA G 200 (ax 2) tx, uX8 G (ax 9) (fun _ => ok) vsw, uX2 G ok akd, uX8 G (ad 0) (fun _ => ok) vds, uX0 G (ax 10) ad vd, uX6 G (ax 11) (upn asr 0 ok) vse, uX5 G (ax 12) (upn ar 3 t3) vr, uX9 G (ar 0) adr vdr, imU G im0, imU G im1, uX12 G om am rm.2.1, uA G 63 (am 0) rm.2.2, uA G 52 (am 22) nx]) rfl (fun H locs h => ?_)
  refine lv_icmp_eq (tgt := 996) C.hx C.hb dL_law_288 (by decide) (fun _ => ?_) (fun zc => absurd heq zc)
  refine W.widen (k := cells + 11) (n := slots + 69) (by omega) (by omega) ?_
  exact hE hI hfd h hl
set_option maxRecDepth 100000 in
set_option maxHeartbeats 4000000 in
theorem lc_type {p : Program} {l : Launch} {e : Env} {s : State} {m : MethodId} {below : List Frame} {meth : Method} {c : Code} {G : GG} {b L : Nat} {xs : Nat → Int32} {ox om ok : Nat} {ax an akd ad asr ar adr am : Nat → Nat} {N : Nat} {vob : US} {vn : US} {vsw : US} {vds : US} {vd : US} {vse : US} {vr : US} {vdr : US} {vm : US} {tx : Nat → Int32} {w : Nat → Int32} {nx : Nat → Int32} {t3 : Nat} {f : Nat → Option Nat} {im0 : Option (Nat × (Nat → Nat) × US)} {im1 : Option (Nat × (Nat → Nat) × US)} {cells slots : Nat} {Q : State → Prop} {x3 : Int32} (hN : 200000 ≤ N) (C : MC RL code 4 ret G (fun q : Nat => s.heap.size ≤ q) p s m #[Value.ref b] meth c) (hX : va_X b L xs s s.heap) (hbl : b < s.heap.size) (hcs : cells ≤ room_1.cells ∧ slots ≤ room_1.slots) (hcj : cells + 11 ≤ room_1.cells ∧ slots + 69 ≤ room_1.slots) (hi1 : vp_in (x3 + 1) L) (hi2 : vp_in (x3 + 2) L) (hi3 : vp_in (x3 + 3) L) (hi4 : vp_in (x3 + 4) L) (hE : ∀ {vob : US} {vn : US} {vsw : US} {vds : US} {vd : US} {vse : US} {vr : US} {vdr : US} {vm : US} {tx : Nat → Int32} {w : Nat → Int32} {nx : Nat → Int32} {t3 : Nat} {f : Nat → Option Nat} {im0 : Option (Nat × (Nat → Nat) × US)} {im1 : Option (Nat × (Nat → Nat) × US)} {H : Heap} {locs : List Loc} {ls : Array Slot}, Inv vob vn tx (im0.map fun q => q.2.2) (im1.map fun q => q.2.2) vm w → (f 0 = im0.map fun q => q.1) ∧ (f 1 = im1.map fun q => q.1) → HP G (fun q : Nat => s.heap.size ≤ q) s [uX11 G ox ax vob, uX9 G (ax 0) an vn, uG G (ax 1) f, uA G 200 (ax 2) tx, uX8 G (ax 9) (fun _ => ok) vsw, uX2 G ok akd, uX8 G (ad 0) (fun _ => ok) vds, uX0 G (ax 10) ad vd, uX6 G (ax 11) (upn asr 0 ok) vse, uX5 G (ax 12) (upn ar 3 t3) vr, uX9 G (ar 0) adr vdr, imU G im0, imU G im1, uX12 G om am vm, uA G 63 (am 0) w, uA G 52 (am 22) nx] H locs → lv_has ls 4 [(0, .ref b), (1, .ref ox), (2, .ref om), (3, .int x3)] → W p l e room_1 s m #[Value.ref b] below meth c H locs (cells + 11) (slots + 69) Q (F0 m 996 ls [])) (hI : Inv vob vn tx (im0.map fun q => q.2.2) (im1.map fun q => q.2.2) vm w) (hfd : (f 0 = im0.map fun q => q.1) ∧ (f 1 = im1.map fun q => q.1)) {H : Heap} {locs : List Loc} {ls : Array Slot} (h : HP G (fun q : Nat => s.heap.size ≤ q) s [uX11 G ox ax vob, uX9 G (ax 0) an vn, uG G (ax 1) f, uA G 200 (ax 2) tx, uX8 G (ax 9) (fun _ => ok) vsw, uX2 G ok akd, uX8 G (ad 0) (fun _ => ok) vds, uX0 G (ax 10) ad vd, uX6 G (ax 11) (upn asr 0 ok) vse, uX5 G (ax 12) (upn ar 3 t3) vr, uX9 G (ar 0) adr vdr, imU G im0, imU G im1, uX12 G om am vm, uA G 63 (am 0) w, uA G 52 (am 22) nx] H locs) (hl : lv_has ls 4 [(0, .ref b), (1, .ref ox), (2, .ref om), (3, .int x3)]) : W p l e room_1 s m #[Value.ref b] below meth c H locs cells slots Q (F0 m 293 ls []) := by
  refine lv_aload_n C.hx C.hb dL_law_293 rfl (lv_at hl 1 rfl) ?_
  refine lv_aload_n C.hx C.hb dL_law_294 rfl (lv_at hl 0 rfl) ?_
  refine lv_iload_n C.hx C.hb dL_law_295 rfl (lv_at hl 3 rfl) ?_
  refine lv_iconst (v := 1) C.hx C.hb dL_law_296 (by decide) ?_
  refine lv_iadd C.hx C.hb dL_law_297 ?_
  refine va_sld C.hx C.hb hX hbl (Nat.not_le.mpr hbl) h.2.2 hi1 dL_law_298 ?_
  refine lv_i2l C.hx C.hb dL_law_299 rfl ?_
  refine lv_bipush (v := 32) C.hx C.hb dL_law_300 (by decide) ?_
  refine lv_lshl C.hx C.hb dL_law_302 rfl ?_
  refine lv_aload_n C.hx C.hb dL_law_303 rfl (lv_at hl 0 rfl) ?_
  refine lv_iload_n C.hx C.hb dL_law_304 rfl (lv_at hl 3 rfl) ?_
  refine lv_iconst (v := 2) C.hx C.hb dL_law_305 (by decide) ?_
  refine lv_iadd C.hx C.hb dL_law_306 ?_
  refine va_sld C.hx C.hb hX hbl (Nat.not_le.mpr hbl) h.2.2 hi2 dL_law_307 ?_
  refine lv_i2l C.hx C.hb dL_law_308 rfl ?_
  refine lv_ldc2 C.hx C.hb C.hown (C.hts _ cw_L_28) dL_law_309 ?_
  refine lv_land C.hx C.hb dL_law_312 ?_
  refine lv_lor C.hx C.hb dL_law_313 ?_
  refine lv_aload_n C.hx C.hb dL_law_314 rfl (lv_at hl 0 rfl) ?_
  refine lv_iload_n C.hx C.hb dL_law_315 rfl (lv_at hl 3 rfl) ?_
  refine lv_iconst (v := 3) C.hx C.hb dL_law_316 (by decide) ?_
  refine lv_iadd C.hx C.hb dL_law_317 ?_
  refine va_sld C.hx C.hb hX hbl (Nat.not_le.mpr hbl) h.2.2 hi3 dL_law_318 ?_
  obtain ⟨rx, rm, hfx, hfm, heq, hI⟩ := sim_type hN hI ((((xs (x3 + 1).toNatClampNeg).toInt64) <<< ((32 : Int32).toInt64 &&& 63)) ||| (((xs (x3 + 2).toNatClampNeg).toInt64) &&& 4294967295)) (xs (x3 + 3).toNatClampNeg)
  have zmrx := c_X11_type l G ox ax N (hf := hfx)
  refine g_goI C h zmrx.1 (is := [0, 3]) rfl rfl (g_runV C h (is := [0, 3]) rfl rfl (As := [.long ((((xs (x3 + 1).toNatClampNeg).toInt64) <<< ((32 : Int32).toInt64 &&& 63)) ||| (((xs (x3 + 2).toNatClampNeg).toInt64) &&& 4294967295)), .int (xs (x3 + 3).toNatClampNeg)]) (rest := []) (zmrx.2 _) vf_L_30 0 0 rfl rfl hl.1 rfl rfl (Nat.le_of_ble_eq_true rfl) dL_law_319 ⟨Nat.le_of_ble_eq_true rfl, Nat.le_of_ble_eq_true rfl⟩ hcs) (us2 := [uX11 G ox ax rx.2.1, uX9 G (ax 0) an vn, uG G (ax 1) f, uA G 200 (ax 2) rx.2.2, uX8 G (ax 9) (fun _ => ok) vsw, uX2 G ok akd, uX8 G (ad 0) (fun _ => ok) vds, uX0 G (ax 10) ad vd, uX6 G (ax 11) (upn asr 0 ok) vse, uX5 G (ax 12) (upn ar 3 t3) vr, uX9 G (ar 0) adr vdr, imU G im0, imU G im1, uX12 G om am vm, uA G 63 (am 0) w, uA G 52 (am 22) nx]) rfl (fun H locs h => ?_)
  refine lv_aload_n C.hx C.hb dL_law_322 rfl (lv_at hl 2 rfl) ?_
  refine lv_aload_n C.hx C.hb dL_law_323 rfl (lv_at hl 0 rfl) ?_
  refine lv_iload_n C.hx C.hb dL_law_324 rfl (lv_at hl 3 rfl) ?_
  refine lv_iconst (v := 1) C.hx C.hb dL_law_325 (by decide) ?_
  refine lv_iadd C.hx C.hb dL_law_326 ?_
  refine va_sld C.hx C.hb hX hbl (Nat.not_le.mpr hbl) h.2.2 hi1 dL_law_327 ?_
  refine lv_i2l C.hx C.hb dL_law_328 rfl ?_
  refine lv_bipush (v := 32) C.hx C.hb dL_law_329 (by decide) ?_
  refine lv_lshl C.hx C.hb dL_law_331 rfl ?_
  refine lv_aload_n C.hx C.hb dL_law_332 rfl (lv_at hl 0 rfl) ?_
  refine lv_iload_n C.hx C.hb dL_law_333 rfl (lv_at hl 3 rfl) ?_
  refine lv_iconst (v := 2) C.hx C.hb dL_law_334 (by decide) ?_
  refine lv_iadd C.hx C.hb dL_law_335 ?_
  refine va_sld C.hx C.hb hX hbl (Nat.not_le.mpr hbl) h.2.2 hi2 dL_law_336 ?_
  refine lv_i2l C.hx C.hb dL_law_337 rfl ?_
  refine lv_ldc2 C.hx C.hb C.hown (C.hts _ cw_L_28) dL_law_338 ?_
  refine lv_land C.hx C.hb dL_law_341 ?_
  refine lv_lor C.hx C.hb dL_law_342 ?_
  refine lv_aload_n C.hx C.hb dL_law_343 rfl (lv_at hl 0 rfl) ?_
  refine lv_iload_n C.hx C.hb dL_law_344 rfl (lv_at hl 3 rfl) ?_
  refine lv_iconst (v := 3) C.hx C.hb dL_law_345 (by decide) ?_
  refine lv_iadd C.hx C.hb dL_law_346 ?_
  refine va_sld C.hx C.hb hX hbl (Nat.not_le.mpr hbl) h.2.2 hi3 dL_law_347 ?_
  have zmrm := c_X12_type l G om am N (hf := hfm)
  refine g_goI C h zmrm.1 (is := [13]) rfl rfl (g_runV C h (is := [13]) rfl rfl (As := [.long ((((xs (x3 + 1).toNatClampNeg).toInt64) <<< ((32 : Int32).toInt64 &&& 63)) ||| (((xs (x3 + 2).toNatClampNeg).toInt64) &&& 4294967295)), .int (xs (x3 + 3).toNatClampNeg)]) (rest := [.int rx.1]) (zmrm.2 _) vf_L_34 13 0 rfl rfl hl.1 rfl rfl (Nat.le_of_ble_eq_true rfl) dL_law_348 ⟨Nat.le_of_ble_eq_true rfl, Nat.le_of_ble_eq_true rfl⟩ hcs) (us2 := [uX11 G ox ax rx.2.1, uX9 G (ax 0) an vn, uG G (ax 1) f, uA G 200 (ax 2) rx.2.2, uX8 G (ax 9) (fun _ => ok) vsw, uX2 G ok akd, uX8 G (ad 0) (fun _ => ok) vds, uX0 G (ax 10) ad vd, uX6 G (ax 11) (upn asr 0 ok) vse, uX5 G (ax 12) (upn ar 3 t3) vr, uX9 G (ar 0) adr vdr, imU G im0, imU G im1, uX12 G om am rm.2, uA G 63 (am 0) w, uA G 52 (am 22) nx]) rfl (fun H locs h => ?_)
  refine lv_icmp_eq (tgt := 996) C.hx C.hb dL_law_351 (by decide) (fun _ => ?_) (fun zc => absurd heq zc)
  refine W.widen (k := cells + 11) (n := slots + 69) (by omega) (by omega) ?_
  exact hE hI hfd h hl
set_option maxRecDepth 100000 in
set_option maxHeartbeats 4000000 in
theorem lc_clear {p : Program} {l : Launch} {e : Env} {s : State} {m : MethodId} {below : List Frame} {meth : Method} {c : Code} {G : GG} {b L : Nat} {xs : Nat → Int32} {ox om ok : Nat} {ax an akd ad asr ar adr am : Nat → Nat} {N : Nat} {vob : US} {vn : US} {vsw : US} {vds : US} {vd : US} {vse : US} {vr : US} {vdr : US} {vm : US} {tx : Nat → Int32} {w : Nat → Int32} {nx : Nat → Int32} {t3 : Nat} {f : Nat → Option Nat} {im0 : Option (Nat × (Nat → Nat) × US)} {im1 : Option (Nat × (Nat → Nat) × US)} {cells slots : Nat} {Q : State → Prop} {x3 : Int32} (hN : 200000 ≤ N) (C : MC RL code 4 ret G (fun q : Nat => s.heap.size ≤ q) p s m #[Value.ref b] meth c) (hX : va_X b L xs s s.heap) (hbl : b < s.heap.size) (hcs : cells ≤ room_1.cells ∧ slots ≤ room_1.slots) (hcj : cells + 11 ≤ room_1.cells ∧ slots + 69 ≤ room_1.slots) (hi1 : vp_in (x3 + 1) L) (hi2 : vp_in (x3 + 2) L) (hi3 : vp_in (x3 + 3) L) (hi4 : vp_in (x3 + 4) L) (hE : ∀ {vob : US} {vn : US} {vsw : US} {vds : US} {vd : US} {vse : US} {vr : US} {vdr : US} {vm : US} {tx : Nat → Int32} {w : Nat → Int32} {nx : Nat → Int32} {t3 : Nat} {f : Nat → Option Nat} {im0 : Option (Nat × (Nat → Nat) × US)} {im1 : Option (Nat × (Nat → Nat) × US)} {H : Heap} {locs : List Loc} {ls : Array Slot}, Inv vob vn tx (im0.map fun q => q.2.2) (im1.map fun q => q.2.2) vm w → (f 0 = im0.map fun q => q.1) ∧ (f 1 = im1.map fun q => q.1) → HP G (fun q : Nat => s.heap.size ≤ q) s [uX11 G ox ax vob, uX9 G (ax 0) an vn, uG G (ax 1) f, uA G 200 (ax 2) tx, uX8 G (ax 9) (fun _ => ok) vsw, uX2 G ok akd, uX8 G (ad 0) (fun _ => ok) vds, uX0 G (ax 10) ad vd, uX6 G (ax 11) (upn asr 0 ok) vse, uX5 G (ax 12) (upn ar 3 t3) vr, uX9 G (ar 0) adr vdr, imU G im0, imU G im1, uX12 G om am vm, uA G 63 (am 0) w, uA G 52 (am 22) nx] H locs → lv_has ls 4 [(0, .ref b), (1, .ref ox), (2, .ref om), (3, .int x3)] → W p l e room_1 s m #[Value.ref b] below meth c H locs (cells + 11) (slots + 69) Q (F0 m 996 ls [])) (hI : Inv vob vn tx (im0.map fun q => q.2.2) (im1.map fun q => q.2.2) vm w) (hfd : (f 0 = im0.map fun q => q.1) ∧ (f 1 = im1.map fun q => q.1)) {H : Heap} {locs : List Loc} {ls : Array Slot} (h : HP G (fun q : Nat => s.heap.size ≤ q) s [uX11 G ox ax vob, uX9 G (ax 0) an vn, uG G (ax 1) f, uA G 200 (ax 2) tx, uX8 G (ax 9) (fun _ => ok) vsw, uX2 G ok akd, uX8 G (ad 0) (fun _ => ok) vds, uX0 G (ax 10) ad vd, uX6 G (ax 11) (upn asr 0 ok) vse, uX5 G (ax 12) (upn ar 3 t3) vr, uX9 G (ar 0) adr vdr, imU G im0, imU G im1, uX12 G om am vm, uA G 63 (am 0) w, uA G 52 (am 22) nx] H locs) (hl : lv_has ls 4 [(0, .ref b), (1, .ref ox), (2, .ref om), (3, .int x3)]) : W p l e room_1 s m #[Value.ref b] below meth c H locs cells slots Q (F0 m 356 ls []) := by
  refine lv_aload_n C.hx C.hb dL_law_356 rfl (lv_at hl 1 rfl) ?_
  obtain ⟨rx, rm, hfx, hfm, heq, hI⟩ := sim_clear hN hI 
  have zmrx := c_X11_clear l G ox ax (hf := hfx)
  refine g_goI C h zmrx.1 (is := [0]) rfl rfl (g_runV C h (is := [0]) rfl rfl (As := []) (rest := []) (zmrx.2 _) vf_L_35 0 0 rfl rfl hl.1 rfl rfl (Nat.le_of_ble_eq_true rfl) dL_law_357 ⟨Nat.le_of_ble_eq_true rfl, Nat.le_of_ble_eq_true rfl⟩ hcs) (us2 := [uX11 G ox ax rx.2, uX9 G (ax 0) an vn, uG G (ax 1) f, uA G 200 (ax 2) tx, uX8 G (ax 9) (fun _ => ok) vsw, uX2 G ok akd, uX8 G (ad 0) (fun _ => ok) vds, uX0 G (ax 10) ad vd, uX6 G (ax 11) (upn asr 0 ok) vse, uX5 G (ax 12) (upn ar 3 t3) vr, uX9 G (ar 0) adr vdr, imU G im0, imU G im1, uX12 G om am vm, uA G 63 (am 0) w, uA G 52 (am 22) nx]) rfl (fun H locs h => ?_)
  refine lv_aload_n C.hx C.hb dL_law_360 rfl (lv_at hl 2 rfl) ?_
  have zmrm := c_X12_clear l G om am (hf := hfm)
  refine g_goI C h zmrm.1 (is := [13]) rfl rfl (g_runV C h (is := [13]) rfl rfl (As := []) (rest := [.int rx.1]) (zmrm.2 _) vf_L_39 13 0 rfl rfl hl.1 rfl rfl (Nat.le_of_ble_eq_true rfl) dL_law_361 ⟨Nat.le_of_ble_eq_true rfl, Nat.le_of_ble_eq_true rfl⟩ hcs) (us2 := [uX11 G ox ax rx.2, uX9 G (ax 0) an vn, uG G (ax 1) f, uA G 200 (ax 2) tx, uX8 G (ax 9) (fun _ => ok) vsw, uX2 G ok akd, uX8 G (ad 0) (fun _ => ok) vds, uX0 G (ax 10) ad vd, uX6 G (ax 11) (upn asr 0 ok) vse, uX5 G (ax 12) (upn ar 3 t3) vr, uX9 G (ar 0) adr vdr, imU G im0, imU G im1, uX12 G om am rm.2, uA G 63 (am 0) w, uA G 52 (am 22) nx]) rfl (fun H locs h => ?_)
  refine lv_icmp_eq (tgt := 996) C.hx C.hb dL_law_364 (by decide) (fun _ => ?_) (fun zc => absurd heq zc)
  refine W.widen (k := cells + 11) (n := slots + 69) (by omega) (by omega) ?_
  exact hE hI hfd h hl
set_option maxRecDepth 100000 in
set_option maxHeartbeats 4000000 in
theorem lc_read {p : Program} {l : Launch} {e : Env} {s : State} {m : MethodId} {below : List Frame} {meth : Method} {c : Code} {G : GG} {b L : Nat} {xs : Nat → Int32} {ox om ok : Nat} {ax an akd ad asr ar adr am : Nat → Nat} {N : Nat} {vob : US} {vn : US} {vsw : US} {vds : US} {vd : US} {vse : US} {vr : US} {vdr : US} {vm : US} {tx : Nat → Int32} {w : Nat → Int32} {nx : Nat → Int32} {t3 : Nat} {f : Nat → Option Nat} {im0 : Option (Nat × (Nat → Nat) × US)} {im1 : Option (Nat × (Nat → Nat) × US)} {cells slots : Nat} {Q : State → Prop} {x3 : Int32} (hN : 200000 ≤ N) (C : MC RL code 4 ret G (fun q : Nat => s.heap.size ≤ q) p s m #[Value.ref b] meth c) (hX : va_X b L xs s s.heap) (hbl : b < s.heap.size) (hcs : cells ≤ room_1.cells ∧ slots ≤ room_1.slots) (hcj : cells + 11 ≤ room_1.cells ∧ slots + 69 ≤ room_1.slots) (hi1 : vp_in (x3 + 1) L) (hi2 : vp_in (x3 + 2) L) (hi3 : vp_in (x3 + 3) L) (hi4 : vp_in (x3 + 4) L) (hE : ∀ {vob : US} {vn : US} {vsw : US} {vds : US} {vd : US} {vse : US} {vr : US} {vdr : US} {vm : US} {tx : Nat → Int32} {w : Nat → Int32} {nx : Nat → Int32} {t3 : Nat} {f : Nat → Option Nat} {im0 : Option (Nat × (Nat → Nat) × US)} {im1 : Option (Nat × (Nat → Nat) × US)} {H : Heap} {locs : List Loc} {ls : Array Slot}, Inv vob vn tx (im0.map fun q => q.2.2) (im1.map fun q => q.2.2) vm w → (f 0 = im0.map fun q => q.1) ∧ (f 1 = im1.map fun q => q.1) → HP G (fun q : Nat => s.heap.size ≤ q) s [uX11 G ox ax vob, uX9 G (ax 0) an vn, uG G (ax 1) f, uA G 200 (ax 2) tx, uX8 G (ax 9) (fun _ => ok) vsw, uX2 G ok akd, uX8 G (ad 0) (fun _ => ok) vds, uX0 G (ax 10) ad vd, uX6 G (ax 11) (upn asr 0 ok) vse, uX5 G (ax 12) (upn ar 3 t3) vr, uX9 G (ar 0) adr vdr, imU G im0, imU G im1, uX12 G om am vm, uA G 63 (am 0) w, uA G 52 (am 22) nx] H locs → lv_has ls 4 [(0, .ref b), (1, .ref ox), (2, .ref om), (3, .int x3)] → W p l e room_1 s m #[Value.ref b] below meth c H locs (cells + 11) (slots + 69) Q (F0 m 996 ls [])) (hI : Inv vob vn tx (im0.map fun q => q.2.2) (im1.map fun q => q.2.2) vm w) (hfd : (f 0 = im0.map fun q => q.1) ∧ (f 1 = im1.map fun q => q.1)) {H : Heap} {locs : List Loc} {ls : Array Slot} (h : HP G (fun q : Nat => s.heap.size ≤ q) s [uX11 G ox ax vob, uX9 G (ax 0) an vn, uG G (ax 1) f, uA G 200 (ax 2) tx, uX8 G (ax 9) (fun _ => ok) vsw, uX2 G ok akd, uX8 G (ad 0) (fun _ => ok) vds, uX0 G (ax 10) ad vd, uX6 G (ax 11) (upn asr 0 ok) vse, uX5 G (ax 12) (upn ar 3 t3) vr, uX9 G (ar 0) adr vdr, imU G im0, imU G im1, uX12 G om am vm, uA G 63 (am 0) w, uA G 52 (am 22) nx] H locs) (hl : lv_has ls 4 [(0, .ref b), (1, .ref ox), (2, .ref om), (3, .int x3)]) : W p l e room_1 s m #[Value.ref b] below meth c H locs cells slots Q (F0 m 369 ls []) := by
  refine lv_aload_n C.hx C.hb dL_law_369 rfl (lv_at hl 1 rfl) ?_
  obtain ⟨rx, rm, hfx, hfm, heq, hI⟩ := sim_read hN hI vr vdr nx
  have zmrx := c_X11_read l G ox ax an (upn ar 3 t3) adr N (hf := hfx)
  refine g_goI C h zmrx.1 (is := [0, 1, 9, 10, 3]) rfl rfl (g_runV C h (is := [0, 1, 9, 10, 3]) rfl rfl (As := []) (rest := []) (zmrx.2 _) vf_L_40 0 0 rfl rfl hl.1 rfl rfl (Nat.le_of_ble_eq_true rfl) dL_law_370 ⟨Nat.le_of_ble_eq_true rfl, Nat.le_of_ble_eq_true rfl⟩ hcs) (us2 := [uX11 G ox ax vob, uX9 G (ax 0) an rx.2.1, uG G (ax 1) f, uA G 200 (ax 2) tx, uX8 G (ax 9) (fun _ => ok) vsw, uX2 G ok akd, uX8 G (ad 0) (fun _ => ok) vds, uX0 G (ax 10) ad vd, uX6 G (ax 11) (upn asr 0 ok) vse, uX5 G (ax 12) (upn ar 3 (ax 2)) rx.2.2.1, uX9 G (ar 0) adr rx.2.2.2, imU G im0, imU G im1, uX12 G om am vm, uA G 63 (am 0) w, uA G 52 (am 22) nx]) rfl (fun H locs h => ?_)
  refine lv_aload_n C.hx C.hb dL_law_373 rfl (lv_at hl 2 rfl) ?_
  have zmrm := c_X12_read l G om am N (hf := hfm)
  refine g_goI C h zmrm.1 (is := [13, 15, 14]) rfl rfl (g_runV C h (is := [13, 15, 14]) rfl rfl (As := []) (rest := [.int rx.1]) (zmrm.2 _) vf_L_43 13 0 rfl rfl hl.1 rfl rfl (Nat.le_of_ble_eq_true rfl) dL_law_374 ⟨Nat.le_of_ble_eq_true rfl, Nat.le_of_ble_eq_true rfl⟩ hcs) (us2 := [uX11 G ox ax vob, uX9 G (ax 0) an rx.2.1, uG G (ax 1) f, uA G 200 (ax 2) tx, uX8 G (ax 9) (fun _ => ok) vsw, uX2 G ok akd, uX8 G (ad 0) (fun _ => ok) vds, uX0 G (ax 10) ad vd, uX6 G (ax 11) (upn asr 0 ok) vse, uX5 G (ax 12) (upn ar 3 (ax 2)) rx.2.2.1, uX9 G (ar 0) adr rx.2.2.2, imU G im0, imU G im1, uX12 G om am rm.2.1, uA G 63 (am 0) rm.2.2.2, uA G 52 (am 22) rm.2.2.1]) rfl (fun H locs h => ?_)
  refine lv_icmp_eq (tgt := 996) C.hx C.hb dL_law_377 (by decide) (fun _ => ?_) (fun zc => absurd heq zc)
  refine W.widen (k := cells + 11) (n := slots + 69) (by omega) (by omega) ?_
  exact hE hI hfd h hl
set_option maxRecDepth 100000 in
set_option maxHeartbeats 4000000 in
theorem lc_pull {p : Program} {l : Launch} {e : Env} {s : State} {m : MethodId} {below : List Frame} {meth : Method} {c : Code} {G : GG} {b L : Nat} {xs : Nat → Int32} {ox om ok : Nat} {ax an akd ad asr ar adr am : Nat → Nat} {N : Nat} {vob : US} {vn : US} {vsw : US} {vds : US} {vd : US} {vse : US} {vr : US} {vdr : US} {vm : US} {tx : Nat → Int32} {w : Nat → Int32} {nx : Nat → Int32} {t3 : Nat} {f : Nat → Option Nat} {im0 : Option (Nat × (Nat → Nat) × US)} {im1 : Option (Nat × (Nat → Nat) × US)} {cells slots : Nat} {Q : State → Prop} {x3 : Int32} (hN : 200000 ≤ N) (C : MC RL code 4 ret G (fun q : Nat => s.heap.size ≤ q) p s m #[Value.ref b] meth c) (hX : va_X b L xs s s.heap) (hbl : b < s.heap.size) (hcs : cells ≤ room_1.cells ∧ slots ≤ room_1.slots) (hcj : cells + 11 ≤ room_1.cells ∧ slots + 69 ≤ room_1.slots) (hi1 : vp_in (x3 + 1) L) (hi2 : vp_in (x3 + 2) L) (hi3 : vp_in (x3 + 3) L) (hi4 : vp_in (x3 + 4) L) (hE : ∀ {vob : US} {vn : US} {vsw : US} {vds : US} {vd : US} {vse : US} {vr : US} {vdr : US} {vm : US} {tx : Nat → Int32} {w : Nat → Int32} {nx : Nat → Int32} {t3 : Nat} {f : Nat → Option Nat} {im0 : Option (Nat × (Nat → Nat) × US)} {im1 : Option (Nat × (Nat → Nat) × US)} {H : Heap} {locs : List Loc} {ls : Array Slot}, Inv vob vn tx (im0.map fun q => q.2.2) (im1.map fun q => q.2.2) vm w → (f 0 = im0.map fun q => q.1) ∧ (f 1 = im1.map fun q => q.1) → HP G (fun q : Nat => s.heap.size ≤ q) s [uX11 G ox ax vob, uX9 G (ax 0) an vn, uG G (ax 1) f, uA G 200 (ax 2) tx, uX8 G (ax 9) (fun _ => ok) vsw, uX2 G ok akd, uX8 G (ad 0) (fun _ => ok) vds, uX0 G (ax 10) ad vd, uX6 G (ax 11) (upn asr 0 ok) vse, uX5 G (ax 12) (upn ar 3 t3) vr, uX9 G (ar 0) adr vdr, imU G im0, imU G im1, uX12 G om am vm, uA G 63 (am 0) w, uA G 52 (am 22) nx] H locs → lv_has ls 4 [(0, .ref b), (1, .ref ox), (2, .ref om), (3, .int x3)] → W p l e room_1 s m #[Value.ref b] below meth c H locs (cells + 11) (slots + 69) Q (F0 m 996 ls [])) (hI : Inv vob vn tx (im0.map fun q => q.2.2) (im1.map fun q => q.2.2) vm w) (hfd : (f 0 = im0.map fun q => q.1) ∧ (f 1 = im1.map fun q => q.1)) {H : Heap} {locs : List Loc} {ls : Array Slot} (h : HP G (fun q : Nat => s.heap.size ≤ q) s [uX11 G ox ax vob, uX9 G (ax 0) an vn, uG G (ax 1) f, uA G 200 (ax 2) tx, uX8 G (ax 9) (fun _ => ok) vsw, uX2 G ok akd, uX8 G (ad 0) (fun _ => ok) vds, uX0 G (ax 10) ad vd, uX6 G (ax 11) (upn asr 0 ok) vse, uX5 G (ax 12) (upn ar 3 t3) vr, uX9 G (ar 0) adr vdr, imU G im0, imU G im1, uX12 G om am vm, uA G 63 (am 0) w, uA G 52 (am 22) nx] H locs) (hl : lv_has ls 4 [(0, .ref b), (1, .ref ox), (2, .ref om), (3, .int x3)]) : W p l e room_1 s m #[Value.ref b] below meth c H locs cells slots Q (F0 m 382 ls []) := by
  refine lv_aload_n C.hx C.hb dL_law_382 rfl (lv_at hl 1 rfl) ?_
  refine lv_aload_n C.hx C.hb dL_law_383 rfl (lv_at hl 0 rfl) ?_
  refine lv_iload_n C.hx C.hb dL_law_384 rfl (lv_at hl 3 rfl) ?_
  refine lv_iconst (v := 1) C.hx C.hb dL_law_385 (by decide) ?_
  refine lv_iadd C.hx C.hb dL_law_386 ?_
  refine va_sld C.hx C.hb hX hbl (Nat.not_le.mpr hbl) h.2.2 hi1 dL_law_387 ?_
  refine lv_aload_n C.hx C.hb dL_law_388 rfl (lv_at hl 0 rfl) ?_
  refine lv_iload_n C.hx C.hb dL_law_389 rfl (lv_at hl 3 rfl) ?_
  refine lv_iconst (v := 2) C.hx C.hb dL_law_390 (by decide) ?_
  refine lv_iadd C.hx C.hb dL_law_391 ?_
  refine va_sld C.hx C.hb hX hbl (Nat.not_le.mpr hbl) h.2.2 hi2 dL_law_392 ?_
  obtain ⟨rx, rm, hfx, hfm, heq, hI⟩ := sim_pull hN hI vsw (xs (x3 + 1).toNatClampNeg) (xs (x3 + 2).toNatClampNeg)
  have zmrx := c_X11_pull l G ox ax an (fun _ => ok) akd N (hf := hfx)
  refine g_goI C h zmrx.1 (is := [0, 1, 4, 5]) rfl rfl (g_runV C h (is := [0, 1, 4, 5]) rfl rfl (As := [.int (xs (x3 + 1).toNatClampNeg), .int (xs (x3 + 2).toNatClampNeg)]) (rest := []) (zmrx.2 _) vf_L_44 0 0 rfl rfl hl.1 rfl rfl (Nat.le_of_ble_eq_true rfl) dL_law_393 ⟨Nat.le_of_ble_eq_true rfl, Nat.le_of_ble_eq_true rfl⟩ hcs) (us2 := [uX11 G ox ax rx.2.1, uX9 G (ax 0) an rx.2.2.1, uG G (ax 1) f, uA G 200 (ax 2) tx, uX8 G (ax 9) (fun _ => ok) rx.2.2.2, uX2 G ok akd, uX8 G (ad 0) (fun _ => ok) vds, uX0 G (ax 10) ad vd, uX6 G (ax 11) (upn asr 0 ok) vse, uX5 G (ax 12) (upn ar 3 t3) vr, uX9 G (ar 0) adr vdr, imU G im0, imU G im1, uX12 G om am vm, uA G 63 (am 0) w, uA G 52 (am 22) nx]) rfl (fun H locs h => ?_)
  refine lv_aload_n C.hx C.hb dL_law_396 rfl (lv_at hl 2 rfl) ?_
  refine lv_aload_n C.hx C.hb dL_law_397 rfl (lv_at hl 0 rfl) ?_
  refine lv_iload_n C.hx C.hb dL_law_398 rfl (lv_at hl 3 rfl) ?_
  refine lv_iconst (v := 1) C.hx C.hb dL_law_399 (by decide) ?_
  refine lv_iadd C.hx C.hb dL_law_400 ?_
  refine va_sld C.hx C.hb hX hbl (Nat.not_le.mpr hbl) h.2.2 hi1 dL_law_401 ?_
  refine lv_aload_n C.hx C.hb dL_law_402 rfl (lv_at hl 0 rfl) ?_
  refine lv_iload_n C.hx C.hb dL_law_403 rfl (lv_at hl 3 rfl) ?_
  refine lv_iconst (v := 2) C.hx C.hb dL_law_404 (by decide) ?_
  refine lv_iadd C.hx C.hb dL_law_405 ?_
  refine va_sld C.hx C.hb hX hbl (Nat.not_le.mpr hbl) h.2.2 hi2 dL_law_406 ?_
  have zmrm := c_X12_pull l G om am N (hf := hfm)
  refine g_goI C h zmrm.1 (is := [13, 14]) rfl rfl (g_runV C h (is := [13, 14]) rfl rfl (As := [.int (xs (x3 + 1).toNatClampNeg), .int (xs (x3 + 2).toNatClampNeg)]) (rest := [.int rx.1]) (zmrm.2 _) vf_L_48 13 0 rfl rfl hl.1 rfl rfl (Nat.le_of_ble_eq_true rfl) dL_law_407 ⟨Nat.le_of_ble_eq_true rfl, Nat.le_of_ble_eq_true rfl⟩ hcs) (us2 := [uX11 G ox ax rx.2.1, uX9 G (ax 0) an rx.2.2.1, uG G (ax 1) f, uA G 200 (ax 2) tx, uX8 G (ax 9) (fun _ => ok) rx.2.2.2, uX2 G ok akd, uX8 G (ad 0) (fun _ => ok) vds, uX0 G (ax 10) ad vd, uX6 G (ax 11) (upn asr 0 ok) vse, uX5 G (ax 12) (upn ar 3 t3) vr, uX9 G (ar 0) adr vdr, imU G im0, imU G im1, uX12 G om am rm.2.1, uA G 63 (am 0) rm.2.2, uA G 52 (am 22) nx]) rfl (fun H locs h => ?_)
  refine lv_icmp_eq (tgt := 996) C.hx C.hb dL_law_410 (by decide) (fun _ => ?_) (fun zc => absurd heq zc)
  refine W.widen (k := cells + 11) (n := slots + 69) (by omega) (by omega) ?_
  exact hE hI hfd h hl
set_option maxRecDepth 100000 in
set_option maxHeartbeats 4000000 in
theorem lc_both {p : Program} {l : Launch} {e : Env} {s : State} {m : MethodId} {below : List Frame} {meth : Method} {c : Code} {G : GG} {b L : Nat} {xs : Nat → Int32} {ox om ok : Nat} {ax an akd ad asr ar adr am : Nat → Nat} {N : Nat} {vob : US} {vn : US} {vsw : US} {vds : US} {vd : US} {vse : US} {vr : US} {vdr : US} {vm : US} {tx : Nat → Int32} {w : Nat → Int32} {nx : Nat → Int32} {t3 : Nat} {f : Nat → Option Nat} {im0 : Option (Nat × (Nat → Nat) × US)} {im1 : Option (Nat × (Nat → Nat) × US)} {cells slots : Nat} {Q : State → Prop} {x3 : Int32} (hN : 200000 ≤ N) (C : MC RL code 4 ret G (fun q : Nat => s.heap.size ≤ q) p s m #[Value.ref b] meth c) (hX : va_X b L xs s s.heap) (hbl : b < s.heap.size) (hcs : cells ≤ room_1.cells ∧ slots ≤ room_1.slots) (hcj : cells + 11 ≤ room_1.cells ∧ slots + 69 ≤ room_1.slots) (hi1 : vp_in (x3 + 1) L) (hi2 : vp_in (x3 + 2) L) (hi3 : vp_in (x3 + 3) L) (hi4 : vp_in (x3 + 4) L) (hE : ∀ {vob : US} {vn : US} {vsw : US} {vds : US} {vd : US} {vse : US} {vr : US} {vdr : US} {vm : US} {tx : Nat → Int32} {w : Nat → Int32} {nx : Nat → Int32} {t3 : Nat} {f : Nat → Option Nat} {im0 : Option (Nat × (Nat → Nat) × US)} {im1 : Option (Nat × (Nat → Nat) × US)} {H : Heap} {locs : List Loc} {ls : Array Slot}, Inv vob vn tx (im0.map fun q => q.2.2) (im1.map fun q => q.2.2) vm w → (f 0 = im0.map fun q => q.1) ∧ (f 1 = im1.map fun q => q.1) → HP G (fun q : Nat => s.heap.size ≤ q) s [uX11 G ox ax vob, uX9 G (ax 0) an vn, uG G (ax 1) f, uA G 200 (ax 2) tx, uX8 G (ax 9) (fun _ => ok) vsw, uX2 G ok akd, uX8 G (ad 0) (fun _ => ok) vds, uX0 G (ax 10) ad vd, uX6 G (ax 11) (upn asr 0 ok) vse, uX5 G (ax 12) (upn ar 3 t3) vr, uX9 G (ar 0) adr vdr, imU G im0, imU G im1, uX12 G om am vm, uA G 63 (am 0) w, uA G 52 (am 22) nx] H locs → lv_has ls 4 [(0, .ref b), (1, .ref ox), (2, .ref om), (3, .int x3)] → W p l e room_1 s m #[Value.ref b] below meth c H locs (cells + 11) (slots + 69) Q (F0 m 996 ls [])) (hI : Inv vob vn tx (im0.map fun q => q.2.2) (im1.map fun q => q.2.2) vm w) (hfd : (f 0 = im0.map fun q => q.1) ∧ (f 1 = im1.map fun q => q.1)) {H : Heap} {locs : List Loc} {ls : Array Slot} (h : HP G (fun q : Nat => s.heap.size ≤ q) s [uX11 G ox ax vob, uX9 G (ax 0) an vn, uG G (ax 1) f, uA G 200 (ax 2) tx, uX8 G (ax 9) (fun _ => ok) vsw, uX2 G ok akd, uX8 G (ad 0) (fun _ => ok) vds, uX0 G (ax 10) ad vd, uX6 G (ax 11) (upn asr 0 ok) vse, uX5 G (ax 12) (upn ar 3 t3) vr, uX9 G (ar 0) adr vdr, imU G im0, imU G im1, uX12 G om am vm, uA G 63 (am 0) w, uA G 52 (am 22) nx] H locs) (hl : lv_has ls 4 [(0, .ref b), (1, .ref ox), (2, .ref om), (3, .int x3)]) : W p l e room_1 s m #[Value.ref b] below meth c H locs cells slots Q (F0 m 415 ls []) := by
  refine lv_aload_n C.hx C.hb dL_law_415 rfl (lv_at hl 1 rfl) ?_
  refine lv_aload_n C.hx C.hb dL_law_416 rfl (lv_at hl 0 rfl) ?_
  refine lv_iload_n C.hx C.hb dL_law_417 rfl (lv_at hl 3 rfl) ?_
  refine lv_iconst (v := 1) C.hx C.hb dL_law_418 (by decide) ?_
  refine lv_iadd C.hx C.hb dL_law_419 ?_
  refine va_sld C.hx C.hb hX hbl (Nat.not_le.mpr hbl) h.2.2 hi1 dL_law_420 ?_
  refine lv_aload_n C.hx C.hb dL_law_421 rfl (lv_at hl 0 rfl) ?_
  refine lv_iload_n C.hx C.hb dL_law_422 rfl (lv_at hl 3 rfl) ?_
  refine lv_iconst (v := 2) C.hx C.hb dL_law_423 (by decide) ?_
  refine lv_iadd C.hx C.hb dL_law_424 ?_
  refine va_sld C.hx C.hb hX hbl (Nat.not_le.mpr hbl) h.2.2 hi2 dL_law_425 ?_
  refine lv_aload_n C.hx C.hb dL_law_426 rfl (lv_at hl 0 rfl) ?_
  refine lv_iload_n C.hx C.hb dL_law_427 rfl (lv_at hl 3 rfl) ?_
  refine lv_iconst (v := 3) C.hx C.hb dL_law_428 (by decide) ?_
  refine lv_iadd C.hx C.hb dL_law_429 ?_
  refine va_sld C.hx C.hb hX hbl (Nat.not_le.mpr hbl) h.2.2 hi3 dL_law_430 ?_
  refine lv_aload_n C.hx C.hb dL_law_431 rfl (lv_at hl 0 rfl) ?_
  refine lv_iload_n C.hx C.hb dL_law_432 rfl (lv_at hl 3 rfl) ?_
  refine lv_iconst (v := 4) C.hx C.hb dL_law_433 (by decide) ?_
  refine lv_iadd C.hx C.hb dL_law_434 ?_
  refine va_sld C.hx C.hb hX hbl (Nat.not_le.mpr hbl) h.2.2 hi4 dL_law_435 ?_
  obtain ⟨rx, rm, hfx, hfm, heq, hI⟩ := sim_both hN hI vsw (xs (x3 + 1).toNatClampNeg) (xs (x3 + 2).toNatClampNeg) (xs (x3 + 3).toNatClampNeg) (xs (x3 + 4).toNatClampNeg)
  have zmrx := c_X11_both l G ox ax an (fun _ => ok) akd N (hf := hfx)
  refine g_goI C h zmrx.1 (is := [0, 1, 4, 5]) rfl rfl (g_runV C h (is := [0, 1, 4, 5]) rfl rfl (As := [.int (xs (x3 + 1).toNatClampNeg), .int (xs (x3 + 2).toNatClampNeg), .int (xs (x3 + 3).toNatClampNeg), .int (xs (x3 + 4).toNatClampNeg)]) (rest := []) (zmrx.2 _) vf_L_49 0 0 rfl rfl hl.1 rfl rfl (Nat.le_of_ble_eq_true rfl) dL_law_436 ⟨Nat.le_of_ble_eq_true rfl, Nat.le_of_ble_eq_true rfl⟩ hcs) (us2 := [uX11 G ox ax rx.2.1, uX9 G (ax 0) an rx.2.2.1, uG G (ax 1) f, uA G 200 (ax 2) tx, uX8 G (ax 9) (fun _ => ok) rx.2.2.2, uX2 G ok akd, uX8 G (ad 0) (fun _ => ok) vds, uX0 G (ax 10) ad vd, uX6 G (ax 11) (upn asr 0 ok) vse, uX5 G (ax 12) (upn ar 3 t3) vr, uX9 G (ar 0) adr vdr, imU G im0, imU G im1, uX12 G om am vm, uA G 63 (am 0) w, uA G 52 (am 22) nx]) rfl (fun H locs h => ?_)
  refine lv_aload_n C.hx C.hb dL_law_439 rfl (lv_at hl 2 rfl) ?_
  refine lv_aload_n C.hx C.hb dL_law_440 rfl (lv_at hl 0 rfl) ?_
  refine lv_iload_n C.hx C.hb dL_law_441 rfl (lv_at hl 3 rfl) ?_
  refine lv_iconst (v := 1) C.hx C.hb dL_law_442 (by decide) ?_
  refine lv_iadd C.hx C.hb dL_law_443 ?_
  refine va_sld C.hx C.hb hX hbl (Nat.not_le.mpr hbl) h.2.2 hi1 dL_law_444 ?_
  refine lv_aload_n C.hx C.hb dL_law_445 rfl (lv_at hl 0 rfl) ?_
  refine lv_iload_n C.hx C.hb dL_law_446 rfl (lv_at hl 3 rfl) ?_
  refine lv_iconst (v := 2) C.hx C.hb dL_law_447 (by decide) ?_
  refine lv_iadd C.hx C.hb dL_law_448 ?_
  refine va_sld C.hx C.hb hX hbl (Nat.not_le.mpr hbl) h.2.2 hi2 dL_law_449 ?_
  refine lv_aload_n C.hx C.hb dL_law_450 rfl (lv_at hl 0 rfl) ?_
  refine lv_iload_n C.hx C.hb dL_law_451 rfl (lv_at hl 3 rfl) ?_
  refine lv_iconst (v := 3) C.hx C.hb dL_law_452 (by decide) ?_
  refine lv_iadd C.hx C.hb dL_law_453 ?_
  refine va_sld C.hx C.hb hX hbl (Nat.not_le.mpr hbl) h.2.2 hi3 dL_law_454 ?_
  refine lv_aload_n C.hx C.hb dL_law_455 rfl (lv_at hl 0 rfl) ?_
  refine lv_iload_n C.hx C.hb dL_law_456 rfl (lv_at hl 3 rfl) ?_
  refine lv_iconst (v := 4) C.hx C.hb dL_law_457 (by decide) ?_
  refine lv_iadd C.hx C.hb dL_law_458 ?_
  refine va_sld C.hx C.hb hX hbl (Nat.not_le.mpr hbl) h.2.2 hi4 dL_law_459 ?_
  have zmrm := c_X12_both l G om am N (hf := hfm)
  refine g_goI C h zmrm.1 (is := [13, 14]) rfl rfl (g_runV C h (is := [13, 14]) rfl rfl (As := [.int (xs (x3 + 1).toNatClampNeg), .int (xs (x3 + 2).toNatClampNeg), .int (xs (x3 + 3).toNatClampNeg), .int (xs (x3 + 4).toNatClampNeg)]) (rest := [.int rx.1]) (zmrm.2 _) vf_L_52 13 0 rfl rfl hl.1 rfl rfl (Nat.le_of_ble_eq_true rfl) dL_law_460 ⟨Nat.le_of_ble_eq_true rfl, Nat.le_of_ble_eq_true rfl⟩ hcs) (us2 := [uX11 G ox ax rx.2.1, uX9 G (ax 0) an rx.2.2.1, uG G (ax 1) f, uA G 200 (ax 2) tx, uX8 G (ax 9) (fun _ => ok) rx.2.2.2, uX2 G ok akd, uX8 G (ad 0) (fun _ => ok) vds, uX0 G (ax 10) ad vd, uX6 G (ax 11) (upn asr 0 ok) vse, uX5 G (ax 12) (upn ar 3 t3) vr, uX9 G (ar 0) adr vdr, imU G im0, imU G im1, uX12 G om am rm.2.1, uA G 63 (am 0) rm.2.2, uA G 52 (am 22) nx]) rfl (fun H locs h => ?_)
  refine lv_icmp_eq (tgt := 996) C.hx C.hb dL_law_463 (by decide) (fun _ => ?_) (fun zc => absurd heq zc)
  refine W.widen (k := cells + 11) (n := slots + 69) (by omega) (by omega) ?_
  exact hE hI hfd h hl
set_option maxRecDepth 100000 in
set_option maxHeartbeats 4000000 in
theorem lc_would {p : Program} {l : Launch} {e : Env} {s : State} {m : MethodId} {below : List Frame} {meth : Method} {c : Code} {G : GG} {b L : Nat} {xs : Nat → Int32} {ox om ok : Nat} {ax an akd ad asr ar adr am : Nat → Nat} {N : Nat} {vob : US} {vn : US} {vsw : US} {vds : US} {vd : US} {vse : US} {vr : US} {vdr : US} {vm : US} {tx : Nat → Int32} {w : Nat → Int32} {nx : Nat → Int32} {t3 : Nat} {f : Nat → Option Nat} {im0 : Option (Nat × (Nat → Nat) × US)} {im1 : Option (Nat × (Nat → Nat) × US)} {cells slots : Nat} {Q : State → Prop} {x3 : Int32} (hN : 200000 ≤ N) (C : MC RL code 4 ret G (fun q : Nat => s.heap.size ≤ q) p s m #[Value.ref b] meth c) (hX : va_X b L xs s s.heap) (hbl : b < s.heap.size) (hcs : cells ≤ room_1.cells ∧ slots ≤ room_1.slots) (hcj : cells + 11 ≤ room_1.cells ∧ slots + 69 ≤ room_1.slots) (hi1 : vp_in (x3 + 1) L) (hi2 : vp_in (x3 + 2) L) (hi3 : vp_in (x3 + 3) L) (hi4 : vp_in (x3 + 4) L) (hE : ∀ {vob : US} {vn : US} {vsw : US} {vds : US} {vd : US} {vse : US} {vr : US} {vdr : US} {vm : US} {tx : Nat → Int32} {w : Nat → Int32} {nx : Nat → Int32} {t3 : Nat} {f : Nat → Option Nat} {im0 : Option (Nat × (Nat → Nat) × US)} {im1 : Option (Nat × (Nat → Nat) × US)} {H : Heap} {locs : List Loc} {ls : Array Slot}, Inv vob vn tx (im0.map fun q => q.2.2) (im1.map fun q => q.2.2) vm w → (f 0 = im0.map fun q => q.1) ∧ (f 1 = im1.map fun q => q.1) → HP G (fun q : Nat => s.heap.size ≤ q) s [uX11 G ox ax vob, uX9 G (ax 0) an vn, uG G (ax 1) f, uA G 200 (ax 2) tx, uX8 G (ax 9) (fun _ => ok) vsw, uX2 G ok akd, uX8 G (ad 0) (fun _ => ok) vds, uX0 G (ax 10) ad vd, uX6 G (ax 11) (upn asr 0 ok) vse, uX5 G (ax 12) (upn ar 3 t3) vr, uX9 G (ar 0) adr vdr, imU G im0, imU G im1, uX12 G om am vm, uA G 63 (am 0) w, uA G 52 (am 22) nx] H locs → lv_has ls 4 [(0, .ref b), (1, .ref ox), (2, .ref om), (3, .int x3)] → W p l e room_1 s m #[Value.ref b] below meth c H locs (cells + 11) (slots + 69) Q (F0 m 996 ls [])) (hI : Inv vob vn tx (im0.map fun q => q.2.2) (im1.map fun q => q.2.2) vm w) (hfd : (f 0 = im0.map fun q => q.1) ∧ (f 1 = im1.map fun q => q.1)) {H : Heap} {locs : List Loc} {ls : Array Slot} (h : HP G (fun q : Nat => s.heap.size ≤ q) s [uX11 G ox ax vob, uX9 G (ax 0) an vn, uG G (ax 1) f, uA G 200 (ax 2) tx, uX8 G (ax 9) (fun _ => ok) vsw, uX2 G ok akd, uX8 G (ad 0) (fun _ => ok) vds, uX0 G (ax 10) ad vd, uX6 G (ax 11) (upn asr 0 ok) vse, uX5 G (ax 12) (upn ar 3 t3) vr, uX9 G (ar 0) adr vdr, imU G im0, imU G im1, uX12 G om am vm, uA G 63 (am 0) w, uA G 52 (am 22) nx] H locs) (hl : lv_has ls 4 [(0, .ref b), (1, .ref ox), (2, .ref om), (3, .int x3)]) : W p l e room_1 s m #[Value.ref b] below meth c H locs cells slots Q (F0 m 468 ls []) := by
  refine lv_aload_n C.hx C.hb dL_law_468 rfl (lv_at hl 1 rfl) ?_
  refine lv_aload_n C.hx C.hb dL_law_469 rfl (lv_at hl 0 rfl) ?_
  refine lv_iload_n C.hx C.hb dL_law_470 rfl (lv_at hl 3 rfl) ?_
  refine lv_iconst (v := 1) C.hx C.hb dL_law_471 (by decide) ?_
  refine lv_iadd C.hx C.hb dL_law_472 ?_
  refine va_sld C.hx C.hb hX hbl (Nat.not_le.mpr hbl) h.2.2 hi1 dL_law_473 ?_
  refine lv_aload_n C.hx C.hb dL_law_474 rfl (lv_at hl 0 rfl) ?_
  refine lv_iload_n C.hx C.hb dL_law_475 rfl (lv_at hl 3 rfl) ?_
  refine lv_iconst (v := 2) C.hx C.hb dL_law_476 (by decide) ?_
  refine lv_iadd C.hx C.hb dL_law_477 ?_
  refine va_sld C.hx C.hb hX hbl (Nat.not_le.mpr hbl) h.2.2 hi2 dL_law_478 ?_
  obtain ⟨rx, rm, hfx, hfm, heq, hI⟩ := sim_would hN hI vsw (xs (x3 + 1).toNatClampNeg) (xs (x3 + 2).toNatClampNeg)
  have zmrx := c_X11_would l G ox ax an (fun _ => ok) akd N (hf := hfx)
  refine g_goI C h zmrx.1 (is := [0, 1, 4, 5]) rfl rfl (g_runV C h (is := [0, 1, 4, 5]) rfl rfl (As := [.int (xs (x3 + 1).toNatClampNeg), .int (xs (x3 + 2).toNatClampNeg)]) (rest := []) (zmrx.2 _) vf_L_53 0 0 rfl rfl hl.1 rfl rfl (Nat.le_of_ble_eq_true rfl) dL_law_479 ⟨Nat.le_of_ble_eq_true rfl, Nat.le_of_ble_eq_true rfl⟩ hcs) (us2 := [uX11 G ox ax rx.2.1, uX9 G (ax 0) an vn, uG G (ax 1) f, uA G 200 (ax 2) tx, uX8 G (ax 9) (fun _ => ok) rx.2.2, uX2 G ok akd, uX8 G (ad 0) (fun _ => ok) vds, uX0 G (ax 10) ad vd, uX6 G (ax 11) (upn asr 0 ok) vse, uX5 G (ax 12) (upn ar 3 t3) vr, uX9 G (ar 0) adr vdr, imU G im0, imU G im1, uX12 G om am vm, uA G 63 (am 0) w, uA G 52 (am 22) nx]) rfl (fun H locs h => ?_)
  refine lv_aload_n C.hx C.hb dL_law_482 rfl (lv_at hl 2 rfl) ?_
  refine lv_aload_n C.hx C.hb dL_law_483 rfl (lv_at hl 0 rfl) ?_
  refine lv_iload_n C.hx C.hb dL_law_484 rfl (lv_at hl 3 rfl) ?_
  refine lv_iconst (v := 1) C.hx C.hb dL_law_485 (by decide) ?_
  refine lv_iadd C.hx C.hb dL_law_486 ?_
  refine va_sld C.hx C.hb hX hbl (Nat.not_le.mpr hbl) h.2.2 hi1 dL_law_487 ?_
  refine lv_aload_n C.hx C.hb dL_law_488 rfl (lv_at hl 0 rfl) ?_
  refine lv_iload_n C.hx C.hb dL_law_489 rfl (lv_at hl 3 rfl) ?_
  refine lv_iconst (v := 2) C.hx C.hb dL_law_490 (by decide) ?_
  refine lv_iadd C.hx C.hb dL_law_491 ?_
  refine va_sld C.hx C.hb hX hbl (Nat.not_le.mpr hbl) h.2.2 hi2 dL_law_492 ?_
  have zmrm := c_X12_would l G om am N (hf := hfm)
  refine g_goI C h zmrm.1 (is := [13, 14]) rfl rfl (g_runV C h (is := [13, 14]) rfl rfl (As := [.int (xs (x3 + 1).toNatClampNeg), .int (xs (x3 + 2).toNatClampNeg)]) (rest := [.int rx.1]) (zmrm.2 _) vf_L_56 13 0 rfl rfl hl.1 rfl rfl (Nat.le_of_ble_eq_true rfl) dL_law_493 ⟨Nat.le_of_ble_eq_true rfl, Nat.le_of_ble_eq_true rfl⟩ hcs) (us2 := [uX11 G ox ax rx.2.1, uX9 G (ax 0) an vn, uG G (ax 1) f, uA G 200 (ax 2) tx, uX8 G (ax 9) (fun _ => ok) rx.2.2, uX2 G ok akd, uX8 G (ad 0) (fun _ => ok) vds, uX0 G (ax 10) ad vd, uX6 G (ax 11) (upn asr 0 ok) vse, uX5 G (ax 12) (upn ar 3 t3) vr, uX9 G (ar 0) adr vdr, imU G im0, imU G im1, uX12 G om am rm.2, uA G 63 (am 0) w, uA G 52 (am 22) nx]) rfl (fun H locs h => ?_)
  refine lv_icmp_eq (tgt := 996) C.hx C.hb dL_law_496 (by decide) (fun _ => ?_) (fun zc => absurd heq zc)
  refine W.widen (k := cells + 11) (n := slots + 69) (by omega) (by omega) ?_
  exact hE hI hfd h hl
set_option maxRecDepth 100000 in
set_option maxHeartbeats 4000000 in
theorem lc_open {p : Program} {l : Launch} {e : Env} {s : State} {m : MethodId} {below : List Frame} {meth : Method} {c : Code} {G : GG} {b L : Nat} {xs : Nat → Int32} {ox om ok : Nat} {ax an akd ad asr ar adr am : Nat → Nat} {N : Nat} {vob : US} {vn : US} {vsw : US} {vds : US} {vd : US} {vse : US} {vr : US} {vdr : US} {vm : US} {tx : Nat → Int32} {w : Nat → Int32} {nx : Nat → Int32} {t3 : Nat} {f : Nat → Option Nat} {im0 : Option (Nat × (Nat → Nat) × US)} {im1 : Option (Nat × (Nat → Nat) × US)} {cells slots : Nat} {Q : State → Prop} {x3 : Int32} (hN : 200000 ≤ N) (C : MC RL code 4 ret G (fun q : Nat => s.heap.size ≤ q) p s m #[Value.ref b] meth c) (hX : va_X b L xs s s.heap) (hbl : b < s.heap.size) (hcs : cells ≤ room_1.cells ∧ slots ≤ room_1.slots) (hcj : cells + 11 ≤ room_1.cells ∧ slots + 69 ≤ room_1.slots) (hi1 : vp_in (x3 + 1) L) (hi2 : vp_in (x3 + 2) L) (hi3 : vp_in (x3 + 3) L) (hi4 : vp_in (x3 + 4) L) (hE : ∀ {vob : US} {vn : US} {vsw : US} {vds : US} {vd : US} {vse : US} {vr : US} {vdr : US} {vm : US} {tx : Nat → Int32} {w : Nat → Int32} {nx : Nat → Int32} {t3 : Nat} {f : Nat → Option Nat} {im0 : Option (Nat × (Nat → Nat) × US)} {im1 : Option (Nat × (Nat → Nat) × US)} {H : Heap} {locs : List Loc} {ls : Array Slot}, Inv vob vn tx (im0.map fun q => q.2.2) (im1.map fun q => q.2.2) vm w → (f 0 = im0.map fun q => q.1) ∧ (f 1 = im1.map fun q => q.1) → HP G (fun q : Nat => s.heap.size ≤ q) s [uX11 G ox ax vob, uX9 G (ax 0) an vn, uG G (ax 1) f, uA G 200 (ax 2) tx, uX8 G (ax 9) (fun _ => ok) vsw, uX2 G ok akd, uX8 G (ad 0) (fun _ => ok) vds, uX0 G (ax 10) ad vd, uX6 G (ax 11) (upn asr 0 ok) vse, uX5 G (ax 12) (upn ar 3 t3) vr, uX9 G (ar 0) adr vdr, imU G im0, imU G im1, uX12 G om am vm, uA G 63 (am 0) w, uA G 52 (am 22) nx] H locs → lv_has ls 4 [(0, .ref b), (1, .ref ox), (2, .ref om), (3, .int x3)] → W p l e room_1 s m #[Value.ref b] below meth c H locs (cells + 11) (slots + 69) Q (F0 m 996 ls [])) (hI : Inv vob vn tx (im0.map fun q => q.2.2) (im1.map fun q => q.2.2) vm w) (hfd : (f 0 = im0.map fun q => q.1) ∧ (f 1 = im1.map fun q => q.1)) {H : Heap} {locs : List Loc} {ls : Array Slot} (h : HP G (fun q : Nat => s.heap.size ≤ q) s [uX11 G ox ax vob, uX9 G (ax 0) an vn, uG G (ax 1) f, uA G 200 (ax 2) tx, uX8 G (ax 9) (fun _ => ok) vsw, uX2 G ok akd, uX8 G (ad 0) (fun _ => ok) vds, uX0 G (ax 10) ad vd, uX6 G (ax 11) (upn asr 0 ok) vse, uX5 G (ax 12) (upn ar 3 t3) vr, uX9 G (ar 0) adr vdr, imU G im0, imU G im1, uX12 G om am vm, uA G 63 (am 0) w, uA G 52 (am 22) nx] H locs) (hl : lv_has ls 4 [(0, .ref b), (1, .ref ox), (2, .ref om), (3, .int x3)]) : W p l e room_1 s m #[Value.ref b] below meth c H locs cells slots Q (F0 m 501 ls []) := by
  refine lv_aload_n C.hx C.hb dL_law_501 rfl (lv_at hl 1 rfl) ?_
  obtain ⟨rx, rm, hfx, hfm, heq, hI⟩ := sim_open hN hI 
  have zmrx := c_X11_open l G ox ax an (hf := hfx)
  refine g_goI C h zmrx.1 (is := [0, 1]) rfl rfl (g_runV C h (is := [0, 1]) rfl rfl (As := []) (rest := []) (zmrx.2 _) vf_L_57 0 0 rfl rfl hl.1 rfl rfl (Nat.le_of_ble_eq_true rfl) dL_law_502 ⟨Nat.le_of_ble_eq_true rfl, Nat.le_of_ble_eq_true rfl⟩ hcs) (us2 := [uX11 G ox ax vob, uX9 G (ax 0) an vn, uG G (ax 1) f, uA G 200 (ax 2) tx, uX8 G (ax 9) (fun _ => ok) vsw, uX2 G ok akd, uX8 G (ad 0) (fun _ => ok) vds, uX0 G (ax 10) ad vd, uX6 G (ax 11) (upn asr 0 ok) vse, uX5 G (ax 12) (upn ar 3 t3) vr, uX9 G (ar 0) adr vdr, imU G im0, imU G im1, uX12 G om am vm, uA G 63 (am 0) w, uA G 52 (am 22) nx]) rfl (fun H locs h => ?_)
  refine lv_aload_n C.hx C.hb dL_law_505 rfl (lv_at hl 2 rfl) ?_
  have zmrm := c_X12_open l G om am (hf := hfm)
  refine g_goI C h zmrm.1 (is := [13, 14]) rfl rfl (g_runV C h (is := [13, 14]) rfl rfl (As := []) (rest := [.int rx]) (zmrm.2 _) vf_L_60 13 0 rfl rfl hl.1 rfl rfl (Nat.le_of_ble_eq_true rfl) dL_law_506 ⟨Nat.le_of_ble_eq_true rfl, Nat.le_of_ble_eq_true rfl⟩ hcs) (us2 := [uX11 G ox ax vob, uX9 G (ax 0) an vn, uG G (ax 1) f, uA G 200 (ax 2) tx, uX8 G (ax 9) (fun _ => ok) vsw, uX2 G ok akd, uX8 G (ad 0) (fun _ => ok) vds, uX0 G (ax 10) ad vd, uX6 G (ax 11) (upn asr 0 ok) vse, uX5 G (ax 12) (upn ar 3 t3) vr, uX9 G (ar 0) adr vdr, imU G im0, imU G im1, uX12 G om am vm, uA G 63 (am 0) w, uA G 52 (am 22) nx]) rfl (fun H locs h => ?_)
  refine lv_icmp_eq (tgt := 996) C.hx C.hb dL_law_509 (by decide) (fun _ => ?_) (fun zc => absurd heq zc)
  refine W.widen (k := cells + 11) (n := slots + 69) (by omega) (by omega) ?_
  exact hE hI hfd h hl
set_option maxRecDepth 100000 in
set_option maxHeartbeats 4000000 in
theorem lc_moves {p : Program} {l : Launch} {e : Env} {s : State} {m : MethodId} {below : List Frame} {meth : Method} {c : Code} {G : GG} {b L : Nat} {xs : Nat → Int32} {ox om ok : Nat} {ax an akd ad asr ar adr am : Nat → Nat} {N : Nat} {vob : US} {vn : US} {vsw : US} {vds : US} {vd : US} {vse : US} {vr : US} {vdr : US} {vm : US} {tx : Nat → Int32} {w : Nat → Int32} {nx : Nat → Int32} {t3 : Nat} {f : Nat → Option Nat} {im0 : Option (Nat × (Nat → Nat) × US)} {im1 : Option (Nat × (Nat → Nat) × US)} {cells slots : Nat} {Q : State → Prop} {x3 : Int32} (hN : 200000 ≤ N) (C : MC RL code 4 ret G (fun q : Nat => s.heap.size ≤ q) p s m #[Value.ref b] meth c) (hX : va_X b L xs s s.heap) (hbl : b < s.heap.size) (hcs : cells ≤ room_1.cells ∧ slots ≤ room_1.slots) (hcj : cells + 11 ≤ room_1.cells ∧ slots + 69 ≤ room_1.slots) (hi1 : vp_in (x3 + 1) L) (hi2 : vp_in (x3 + 2) L) (hi3 : vp_in (x3 + 3) L) (hi4 : vp_in (x3 + 4) L) (hE : ∀ {vob : US} {vn : US} {vsw : US} {vds : US} {vd : US} {vse : US} {vr : US} {vdr : US} {vm : US} {tx : Nat → Int32} {w : Nat → Int32} {nx : Nat → Int32} {t3 : Nat} {f : Nat → Option Nat} {im0 : Option (Nat × (Nat → Nat) × US)} {im1 : Option (Nat × (Nat → Nat) × US)} {H : Heap} {locs : List Loc} {ls : Array Slot}, Inv vob vn tx (im0.map fun q => q.2.2) (im1.map fun q => q.2.2) vm w → (f 0 = im0.map fun q => q.1) ∧ (f 1 = im1.map fun q => q.1) → HP G (fun q : Nat => s.heap.size ≤ q) s [uX11 G ox ax vob, uX9 G (ax 0) an vn, uG G (ax 1) f, uA G 200 (ax 2) tx, uX8 G (ax 9) (fun _ => ok) vsw, uX2 G ok akd, uX8 G (ad 0) (fun _ => ok) vds, uX0 G (ax 10) ad vd, uX6 G (ax 11) (upn asr 0 ok) vse, uX5 G (ax 12) (upn ar 3 t3) vr, uX9 G (ar 0) adr vdr, imU G im0, imU G im1, uX12 G om am vm, uA G 63 (am 0) w, uA G 52 (am 22) nx] H locs → lv_has ls 4 [(0, .ref b), (1, .ref ox), (2, .ref om), (3, .int x3)] → W p l e room_1 s m #[Value.ref b] below meth c H locs (cells + 11) (slots + 69) Q (F0 m 996 ls [])) (hI : Inv vob vn tx (im0.map fun q => q.2.2) (im1.map fun q => q.2.2) vm w) (hfd : (f 0 = im0.map fun q => q.1) ∧ (f 1 = im1.map fun q => q.1)) {H : Heap} {locs : List Loc} {ls : Array Slot} (h : HP G (fun q : Nat => s.heap.size ≤ q) s [uX11 G ox ax vob, uX9 G (ax 0) an vn, uG G (ax 1) f, uA G 200 (ax 2) tx, uX8 G (ax 9) (fun _ => ok) vsw, uX2 G ok akd, uX8 G (ad 0) (fun _ => ok) vds, uX0 G (ax 10) ad vd, uX6 G (ax 11) (upn asr 0 ok) vse, uX5 G (ax 12) (upn ar 3 t3) vr, uX9 G (ar 0) adr vdr, imU G im0, imU G im1, uX12 G om am vm, uA G 63 (am 0) w, uA G 52 (am 22) nx] H locs) (hl : lv_has ls 4 [(0, .ref b), (1, .ref ox), (2, .ref om), (3, .int x3)]) : W p l e room_1 s m #[Value.ref b] below meth c H locs cells slots Q (F0 m 514 ls []) := by
  refine lv_aload_n C.hx C.hb dL_law_514 rfl (lv_at hl 1 rfl) ?_
  refine lv_aload_n C.hx C.hb dL_law_515 rfl (lv_at hl 0 rfl) ?_
  refine lv_iload_n C.hx C.hb dL_law_516 rfl (lv_at hl 3 rfl) ?_
  refine lv_iconst (v := 1) C.hx C.hb dL_law_517 (by decide) ?_
  refine lv_iadd C.hx C.hb dL_law_518 ?_
  refine va_sld C.hx C.hb hX hbl (Nat.not_le.mpr hbl) h.2.2 hi1 dL_law_519 ?_
  refine lv_aload_n C.hx C.hb dL_law_520 rfl (lv_at hl 0 rfl) ?_
  refine lv_iload_n C.hx C.hb dL_law_521 rfl (lv_at hl 3 rfl) ?_
  refine lv_iconst (v := 2) C.hx C.hb dL_law_522 (by decide) ?_
  refine lv_iadd C.hx C.hb dL_law_523 ?_
  refine va_sld C.hx C.hb hX hbl (Nat.not_le.mpr hbl) h.2.2 hi2 dL_law_524 ?_
  refine lv_aload_n C.hx C.hb dL_law_525 rfl (lv_at hl 0 rfl) ?_
  refine lv_iload_n C.hx C.hb dL_law_526 rfl (lv_at hl 3 rfl) ?_
  refine lv_iconst (v := 3) C.hx C.hb dL_law_527 (by decide) ?_
  refine lv_iadd C.hx C.hb dL_law_528 ?_
  refine va_sld C.hx C.hb hX hbl (Nat.not_le.mpr hbl) h.2.2 hi3 dL_law_529 ?_
  obtain ⟨rx, rm, hfx, hfm, heq, hI⟩ := sim_moves hN hI vsw (xs (x3 + 1).toNatClampNeg) (xs (x3 + 2).toNatClampNeg) (xs (x3 + 3).toNatClampNeg)
  have zmrx := c_X11_moves l G ox ax an (fun _ => ok) akd N (hf := hfx)
  refine g_goI C h zmrx.1 (is := [0, 1, 4, 5]) rfl rfl (g_runV C h (is := [0, 1, 4, 5]) rfl rfl (As := [.int (xs (x3 + 1).toNatClampNeg), .int (xs (x3 + 2).toNatClampNeg), .int (xs (x3 + 3).toNatClampNeg)]) (rest := []) (zmrx.2 _) vf_L_61 0 0 rfl rfl hl.1 rfl rfl (Nat.le_of_ble_eq_true rfl) dL_law_530 ⟨Nat.le_of_ble_eq_true rfl, Nat.le_of_ble_eq_true rfl⟩ hcs) (us2 := [uX11 G ox ax rx.2.1, uX9 G (ax 0) an vn, uG G (ax 1) f, uA G 200 (ax 2) tx, uX8 G (ax 9) (fun _ => ok) rx.2.2, uX2 G ok akd, uX8 G (ad 0) (fun _ => ok) vds, uX0 G (ax 10) ad vd, uX6 G (ax 11) (upn asr 0 ok) vse, uX5 G (ax 12) (upn ar 3 t3) vr, uX9 G (ar 0) adr vdr, imU G im0, imU G im1, uX12 G om am vm, uA G 63 (am 0) w, uA G 52 (am 22) nx]) rfl (fun H locs h => ?_)
  refine lv_aload_n C.hx C.hb dL_law_533 rfl (lv_at hl 2 rfl) ?_
  refine lv_aload_n C.hx C.hb dL_law_534 rfl (lv_at hl 0 rfl) ?_
  refine lv_iload_n C.hx C.hb dL_law_535 rfl (lv_at hl 3 rfl) ?_
  refine lv_iconst (v := 1) C.hx C.hb dL_law_536 (by decide) ?_
  refine lv_iadd C.hx C.hb dL_law_537 ?_
  refine va_sld C.hx C.hb hX hbl (Nat.not_le.mpr hbl) h.2.2 hi1 dL_law_538 ?_
  refine lv_aload_n C.hx C.hb dL_law_539 rfl (lv_at hl 0 rfl) ?_
  refine lv_iload_n C.hx C.hb dL_law_540 rfl (lv_at hl 3 rfl) ?_
  refine lv_iconst (v := 2) C.hx C.hb dL_law_541 (by decide) ?_
  refine lv_iadd C.hx C.hb dL_law_542 ?_
  refine va_sld C.hx C.hb hX hbl (Nat.not_le.mpr hbl) h.2.2 hi2 dL_law_543 ?_
  refine lv_aload_n C.hx C.hb dL_law_544 rfl (lv_at hl 0 rfl) ?_
  refine lv_iload_n C.hx C.hb dL_law_545 rfl (lv_at hl 3 rfl) ?_
  refine lv_iconst (v := 3) C.hx C.hb dL_law_546 (by decide) ?_
  refine lv_iadd C.hx C.hb dL_law_547 ?_
  refine va_sld C.hx C.hb hX hbl (Nat.not_le.mpr hbl) h.2.2 hi3 dL_law_548 ?_
  have zmrm := c_X12_moves l G om am N (hf := hfm)
  refine g_goI C h zmrm.1 (is := [13, 14]) rfl rfl (g_runV C h (is := [13, 14]) rfl rfl (As := [.int (xs (x3 + 1).toNatClampNeg), .int (xs (x3 + 2).toNatClampNeg), .int (xs (x3 + 3).toNatClampNeg)]) (rest := [.int rx.1]) (zmrm.2 _) vf_L_65 13 0 rfl rfl hl.1 rfl rfl (Nat.le_of_ble_eq_true rfl) dL_law_549 ⟨Nat.le_of_ble_eq_true rfl, Nat.le_of_ble_eq_true rfl⟩ hcs) (us2 := [uX11 G ox ax rx.2.1, uX9 G (ax 0) an vn, uG G (ax 1) f, uA G 200 (ax 2) tx, uX8 G (ax 9) (fun _ => ok) rx.2.2, uX2 G ok akd, uX8 G (ad 0) (fun _ => ok) vds, uX0 G (ax 10) ad vd, uX6 G (ax 11) (upn asr 0 ok) vse, uX5 G (ax 12) (upn ar 3 t3) vr, uX9 G (ar 0) adr vdr, imU G im0, imU G im1, uX12 G om am rm.2, uA G 63 (am 0) w, uA G 52 (am 22) nx]) rfl (fun H locs h => ?_)
  refine lv_icmp_eq (tgt := 996) C.hx C.hb dL_law_552 (by decide) (fun _ => ?_) (fun zc => absurd heq zc)
  refine W.widen (k := cells + 11) (n := slots + 69) (by omega) (by omega) ?_
  exact hE hI hfd h hl
set_option maxRecDepth 100000 in
set_option maxHeartbeats 4000000 in
theorem lc_undo {p : Program} {l : Launch} {e : Env} {s : State} {m : MethodId} {below : List Frame} {meth : Method} {c : Code} {G : GG} {b L : Nat} {xs : Nat → Int32} {ox om ok : Nat} {ax an akd ad asr ar adr am : Nat → Nat} {N : Nat} {vob : US} {vn : US} {vsw : US} {vds : US} {vd : US} {vse : US} {vr : US} {vdr : US} {vm : US} {tx : Nat → Int32} {w : Nat → Int32} {nx : Nat → Int32} {t3 : Nat} {f : Nat → Option Nat} {im0 : Option (Nat × (Nat → Nat) × US)} {im1 : Option (Nat × (Nat → Nat) × US)} {cells slots : Nat} {Q : State → Prop} {x3 : Int32} (hN : 200000 ≤ N) (C : MC RL code 4 ret G (fun q : Nat => s.heap.size ≤ q) p s m #[Value.ref b] meth c) (hX : va_X b L xs s s.heap) (hbl : b < s.heap.size) (hcs : cells ≤ room_1.cells ∧ slots ≤ room_1.slots) (hcj : cells + 11 ≤ room_1.cells ∧ slots + 69 ≤ room_1.slots) (hi1 : vp_in (x3 + 1) L) (hi2 : vp_in (x3 + 2) L) (hi3 : vp_in (x3 + 3) L) (hi4 : vp_in (x3 + 4) L) (hE : ∀ {vob : US} {vn : US} {vsw : US} {vds : US} {vd : US} {vse : US} {vr : US} {vdr : US} {vm : US} {tx : Nat → Int32} {w : Nat → Int32} {nx : Nat → Int32} {t3 : Nat} {f : Nat → Option Nat} {im0 : Option (Nat × (Nat → Nat) × US)} {im1 : Option (Nat × (Nat → Nat) × US)} {H : Heap} {locs : List Loc} {ls : Array Slot}, Inv vob vn tx (im0.map fun q => q.2.2) (im1.map fun q => q.2.2) vm w → (f 0 = im0.map fun q => q.1) ∧ (f 1 = im1.map fun q => q.1) → HP G (fun q : Nat => s.heap.size ≤ q) s [uX11 G ox ax vob, uX9 G (ax 0) an vn, uG G (ax 1) f, uA G 200 (ax 2) tx, uX8 G (ax 9) (fun _ => ok) vsw, uX2 G ok akd, uX8 G (ad 0) (fun _ => ok) vds, uX0 G (ax 10) ad vd, uX6 G (ax 11) (upn asr 0 ok) vse, uX5 G (ax 12) (upn ar 3 t3) vr, uX9 G (ar 0) adr vdr, imU G im0, imU G im1, uX12 G om am vm, uA G 63 (am 0) w, uA G 52 (am 22) nx] H locs → lv_has ls 4 [(0, .ref b), (1, .ref ox), (2, .ref om), (3, .int x3)] → W p l e room_1 s m #[Value.ref b] below meth c H locs (cells + 11) (slots + 69) Q (F0 m 996 ls [])) (hI : Inv vob vn tx (im0.map fun q => q.2.2) (im1.map fun q => q.2.2) vm w) (hfd : (f 0 = im0.map fun q => q.1) ∧ (f 1 = im1.map fun q => q.1)) {H : Heap} {locs : List Loc} {ls : Array Slot} (h : HP G (fun q : Nat => s.heap.size ≤ q) s [uX11 G ox ax vob, uX9 G (ax 0) an vn, uG G (ax 1) f, uA G 200 (ax 2) tx, uX8 G (ax 9) (fun _ => ok) vsw, uX2 G ok akd, uX8 G (ad 0) (fun _ => ok) vds, uX0 G (ax 10) ad vd, uX6 G (ax 11) (upn asr 0 ok) vse, uX5 G (ax 12) (upn ar 3 t3) vr, uX9 G (ar 0) adr vdr, imU G im0, imU G im1, uX12 G om am vm, uA G 63 (am 0) w, uA G 52 (am 22) nx] H locs) (hl : lv_has ls 4 [(0, .ref b), (1, .ref ox), (2, .ref om), (3, .int x3)]) : W p l e room_1 s m #[Value.ref b] below meth c H locs cells slots Q (F0 m 557 ls []) := by
  refine lv_aload_n C.hx C.hb dL_law_557 rfl (lv_at hl 1 rfl) ?_
  obtain ⟨rx, rm, hfx, hfm, heq, hI⟩ := sim_undo hN hI 
  have zmrx := c_X11_undo l G ox ax an (hf := hfx)
  refine g_goI C h zmrx.1 (is := [0, 1]) rfl rfl (g_runV C h (is := [0, 1]) rfl rfl (As := []) (rest := []) (zmrx.2 _) vf_L_66 0 0 rfl rfl hl.1 rfl rfl (Nat.le_of_ble_eq_true rfl) dL_law_558 ⟨Nat.le_of_ble_eq_true rfl, Nat.le_of_ble_eq_true rfl⟩ hcs) (us2 := [uX11 G ox ax rx.2.1, uX9 G (ax 0) an rx.2.2, uG G (ax 1) f, uA G 200 (ax 2) tx, uX8 G (ax 9) (fun _ => ok) vsw, uX2 G ok akd, uX8 G (ad 0) (fun _ => ok) vds, uX0 G (ax 10) ad vd, uX6 G (ax 11) (upn asr 0 ok) vse, uX5 G (ax 12) (upn ar 3 t3) vr, uX9 G (ar 0) adr vdr, imU G im0, imU G im1, uX12 G om am vm, uA G 63 (am 0) w, uA G 52 (am 22) nx]) rfl (fun H locs h => ?_)
  refine lv_aload_n C.hx C.hb dL_law_561 rfl (lv_at hl 2 rfl) ?_
  have zmrm := c_X12_undo l G om am (hf := hfm)
  refine g_goI C h zmrm.1 (is := [13, 14]) rfl rfl (g_runV C h (is := [13, 14]) rfl rfl (As := []) (rest := [.int rx.1]) (zmrm.2 _) vf_L_69 13 0 rfl rfl hl.1 rfl rfl (Nat.le_of_ble_eq_true rfl) dL_law_562 ⟨Nat.le_of_ble_eq_true rfl, Nat.le_of_ble_eq_true rfl⟩ hcs) (us2 := [uX11 G ox ax rx.2.1, uX9 G (ax 0) an rx.2.2, uG G (ax 1) f, uA G 200 (ax 2) tx, uX8 G (ax 9) (fun _ => ok) vsw, uX2 G ok akd, uX8 G (ad 0) (fun _ => ok) vds, uX0 G (ax 10) ad vd, uX6 G (ax 11) (upn asr 0 ok) vse, uX5 G (ax 12) (upn ar 3 t3) vr, uX9 G (ar 0) adr vdr, imU G im0, imU G im1, uX12 G om am rm.2.1, uA G 63 (am 0) rm.2.2, uA G 52 (am 22) nx]) rfl (fun H locs h => ?_)
  refine lv_icmp_eq (tgt := 996) C.hx C.hb dL_law_565 (by decide) (fun _ => ?_) (fun zc => absurd heq zc)
  refine W.widen (k := cells + 11) (n := slots + 69) (by omega) (by omega) ?_
  exact hE hI hfd h hl
set_option maxRecDepth 100000 in
set_option maxHeartbeats 4000000 in
theorem lc_errand {p : Program} {l : Launch} {e : Env} {s : State} {m : MethodId} {below : List Frame} {meth : Method} {c : Code} {G : GG} {b L : Nat} {xs : Nat → Int32} {ox om ok : Nat} {ax an akd ad asr ar adr am : Nat → Nat} {N : Nat} {vob : US} {vn : US} {vsw : US} {vds : US} {vd : US} {vse : US} {vr : US} {vdr : US} {vm : US} {tx : Nat → Int32} {w : Nat → Int32} {nx : Nat → Int32} {t3 : Nat} {f : Nat → Option Nat} {im0 : Option (Nat × (Nat → Nat) × US)} {im1 : Option (Nat × (Nat → Nat) × US)} {cells slots : Nat} {Q : State → Prop} {x3 : Int32} (hN : 200000 ≤ N) (C : MC RL code 4 ret G (fun q : Nat => s.heap.size ≤ q) p s m #[Value.ref b] meth c) (hX : va_X b L xs s s.heap) (hbl : b < s.heap.size) (hcs : cells ≤ room_1.cells ∧ slots ≤ room_1.slots) (hcj : cells + 11 ≤ room_1.cells ∧ slots + 69 ≤ room_1.slots) (hi1 : vp_in (x3 + 1) L) (hi2 : vp_in (x3 + 2) L) (hi3 : vp_in (x3 + 3) L) (hi4 : vp_in (x3 + 4) L) (hE : ∀ {vob : US} {vn : US} {vsw : US} {vds : US} {vd : US} {vse : US} {vr : US} {vdr : US} {vm : US} {tx : Nat → Int32} {w : Nat → Int32} {nx : Nat → Int32} {t3 : Nat} {f : Nat → Option Nat} {im0 : Option (Nat × (Nat → Nat) × US)} {im1 : Option (Nat × (Nat → Nat) × US)} {H : Heap} {locs : List Loc} {ls : Array Slot}, Inv vob vn tx (im0.map fun q => q.2.2) (im1.map fun q => q.2.2) vm w → (f 0 = im0.map fun q => q.1) ∧ (f 1 = im1.map fun q => q.1) → HP G (fun q : Nat => s.heap.size ≤ q) s [uX11 G ox ax vob, uX9 G (ax 0) an vn, uG G (ax 1) f, uA G 200 (ax 2) tx, uX8 G (ax 9) (fun _ => ok) vsw, uX2 G ok akd, uX8 G (ad 0) (fun _ => ok) vds, uX0 G (ax 10) ad vd, uX6 G (ax 11) (upn asr 0 ok) vse, uX5 G (ax 12) (upn ar 3 t3) vr, uX9 G (ar 0) adr vdr, imU G im0, imU G im1, uX12 G om am vm, uA G 63 (am 0) w, uA G 52 (am 22) nx] H locs → lv_has ls 4 [(0, .ref b), (1, .ref ox), (2, .ref om), (3, .int x3)] → W p l e room_1 s m #[Value.ref b] below meth c H locs (cells + 11) (slots + 69) Q (F0 m 996 ls [])) (hI : Inv vob vn tx (im0.map fun q => q.2.2) (im1.map fun q => q.2.2) vm w) (hfd : (f 0 = im0.map fun q => q.1) ∧ (f 1 = im1.map fun q => q.1)) {H : Heap} {locs : List Loc} {ls : Array Slot} (h : HP G (fun q : Nat => s.heap.size ≤ q) s [uX11 G ox ax vob, uX9 G (ax 0) an vn, uG G (ax 1) f, uA G 200 (ax 2) tx, uX8 G (ax 9) (fun _ => ok) vsw, uX2 G ok akd, uX8 G (ad 0) (fun _ => ok) vds, uX0 G (ax 10) ad vd, uX6 G (ax 11) (upn asr 0 ok) vse, uX5 G (ax 12) (upn ar 3 t3) vr, uX9 G (ar 0) adr vdr, imU G im0, imU G im1, uX12 G om am vm, uA G 63 (am 0) w, uA G 52 (am 22) nx] H locs) (hl : lv_has ls 4 [(0, .ref b), (1, .ref ox), (2, .ref om), (3, .int x3)]) : W p l e room_1 s m #[Value.ref b] below meth c H locs cells slots Q (F0 m 570 ls []) := by
  refine lv_aload_n C.hx C.hb dL_law_570 rfl (lv_at hl 1 rfl) ?_
  refine lv_aload_n C.hx C.hb dL_law_571 rfl (lv_at hl 0 rfl) ?_
  refine lv_iload_n C.hx C.hb dL_law_572 rfl (lv_at hl 3 rfl) ?_
  refine lv_iconst (v := 1) C.hx C.hb dL_law_573 (by decide) ?_
  refine lv_iadd C.hx C.hb dL_law_574 ?_
  refine va_sld C.hx C.hb hX hbl (Nat.not_le.mpr hbl) h.2.2 hi1 dL_law_575 ?_
  refine lv_aload_n C.hx C.hb dL_law_576 rfl (lv_at hl 0 rfl) ?_
  refine lv_iload_n C.hx C.hb dL_law_577 rfl (lv_at hl 3 rfl) ?_
  refine lv_iconst (v := 2) C.hx C.hb dL_law_578 (by decide) ?_
  refine lv_iadd C.hx C.hb dL_law_579 ?_
  refine va_sld C.hx C.hb hX hbl (Nat.not_le.mpr hbl) h.2.2 hi2 dL_law_580 ?_
  obtain ⟨rx, rm, hfx, hfm, heq, hI⟩ := sim_errand hN hI (xs (x3 + 1).toNatClampNeg) (xs (x3 + 2).toNatClampNeg)
  have zmrx := c_X11_errand l G ox ax an (hf := hfx)
  refine g_goI C h zmrx.1 (is := [0, 1]) rfl rfl (g_runV C h (is := [0, 1]) rfl rfl (As := [.int (xs (x3 + 1).toNatClampNeg), .int (xs (x3 + 2).toNatClampNeg)]) (rest := []) (zmrx.2 _) vf_L_70 0 0 rfl rfl hl.1 rfl rfl (Nat.le_of_ble_eq_true rfl) dL_law_581 ⟨Nat.le_of_ble_eq_true rfl, Nat.le_of_ble_eq_true rfl⟩ hcs) (us2 := [uX11 G ox ax rx.2.1, uX9 G (ax 0) an rx.2.2, uG G (ax 1) f, uA G 200 (ax 2) tx, uX8 G (ax 9) (fun _ => ok) vsw, uX2 G ok akd, uX8 G (ad 0) (fun _ => ok) vds, uX0 G (ax 10) ad vd, uX6 G (ax 11) (upn asr 0 ok) vse, uX5 G (ax 12) (upn ar 3 t3) vr, uX9 G (ar 0) adr vdr, imU G im0, imU G im1, uX12 G om am vm, uA G 63 (am 0) w, uA G 52 (am 22) nx]) rfl (fun H locs h => ?_)
  refine lv_aload_n C.hx C.hb dL_law_584 rfl (lv_at hl 2 rfl) ?_
  refine lv_aload_n C.hx C.hb dL_law_585 rfl (lv_at hl 0 rfl) ?_
  refine lv_iload_n C.hx C.hb dL_law_586 rfl (lv_at hl 3 rfl) ?_
  refine lv_iconst (v := 1) C.hx C.hb dL_law_587 (by decide) ?_
  refine lv_iadd C.hx C.hb dL_law_588 ?_
  refine va_sld C.hx C.hb hX hbl (Nat.not_le.mpr hbl) h.2.2 hi1 dL_law_589 ?_
  refine lv_aload_n C.hx C.hb dL_law_590 rfl (lv_at hl 0 rfl) ?_
  refine lv_iload_n C.hx C.hb dL_law_591 rfl (lv_at hl 3 rfl) ?_
  refine lv_iconst (v := 2) C.hx C.hb dL_law_592 (by decide) ?_
  refine lv_iadd C.hx C.hb dL_law_593 ?_
  refine va_sld C.hx C.hb hX hbl (Nat.not_le.mpr hbl) h.2.2 hi2 dL_law_594 ?_
  have zmrm := c_X12_errand l G om am (hf := hfm)
  refine g_goI C h zmrm.1 (is := [13, 14]) rfl rfl (g_runV C h (is := [13, 14]) rfl rfl (As := [.int (xs (x3 + 1).toNatClampNeg), .int (xs (x3 + 2).toNatClampNeg)]) (rest := [.int rx.1]) (zmrm.2 _) vf_L_73 13 0 rfl rfl hl.1 rfl rfl (Nat.le_of_ble_eq_true rfl) dL_law_595 ⟨Nat.le_of_ble_eq_true rfl, Nat.le_of_ble_eq_true rfl⟩ hcs) (us2 := [uX11 G ox ax rx.2.1, uX9 G (ax 0) an rx.2.2, uG G (ax 1) f, uA G 200 (ax 2) tx, uX8 G (ax 9) (fun _ => ok) vsw, uX2 G ok akd, uX8 G (ad 0) (fun _ => ok) vds, uX0 G (ax 10) ad vd, uX6 G (ax 11) (upn asr 0 ok) vse, uX5 G (ax 12) (upn ar 3 t3) vr, uX9 G (ar 0) adr vdr, imU G im0, imU G im1, uX12 G om am rm.2.1, uA G 63 (am 0) rm.2.2, uA G 52 (am 22) nx]) rfl (fun H locs h => ?_)
  refine lv_icmp_eq (tgt := 996) C.hx C.hb dL_law_598 (by decide) (fun _ => ?_) (fun zc => absurd heq zc)
  refine W.widen (k := cells + 11) (n := slots + 69) (by omega) (by omega) ?_
  exact hE hI hfd h hl
set_option maxRecDepth 100000 in
set_option maxHeartbeats 4000000 in
theorem lc_drop {p : Program} {l : Launch} {e : Env} {s : State} {m : MethodId} {below : List Frame} {meth : Method} {c : Code} {G : GG} {b L : Nat} {xs : Nat → Int32} {ox om ok : Nat} {ax an akd ad asr ar adr am : Nat → Nat} {N : Nat} {vob : US} {vn : US} {vsw : US} {vds : US} {vd : US} {vse : US} {vr : US} {vdr : US} {vm : US} {tx : Nat → Int32} {w : Nat → Int32} {nx : Nat → Int32} {t3 : Nat} {f : Nat → Option Nat} {im0 : Option (Nat × (Nat → Nat) × US)} {im1 : Option (Nat × (Nat → Nat) × US)} {cells slots : Nat} {Q : State → Prop} {x3 : Int32} (hN : 200000 ≤ N) (C : MC RL code 4 ret G (fun q : Nat => s.heap.size ≤ q) p s m #[Value.ref b] meth c) (hX : va_X b L xs s s.heap) (hbl : b < s.heap.size) (hcs : cells ≤ room_1.cells ∧ slots ≤ room_1.slots) (hcj : cells + 11 ≤ room_1.cells ∧ slots + 69 ≤ room_1.slots) (hi1 : vp_in (x3 + 1) L) (hi2 : vp_in (x3 + 2) L) (hi3 : vp_in (x3 + 3) L) (hi4 : vp_in (x3 + 4) L) (hE : ∀ {vob : US} {vn : US} {vsw : US} {vds : US} {vd : US} {vse : US} {vr : US} {vdr : US} {vm : US} {tx : Nat → Int32} {w : Nat → Int32} {nx : Nat → Int32} {t3 : Nat} {f : Nat → Option Nat} {im0 : Option (Nat × (Nat → Nat) × US)} {im1 : Option (Nat × (Nat → Nat) × US)} {H : Heap} {locs : List Loc} {ls : Array Slot}, Inv vob vn tx (im0.map fun q => q.2.2) (im1.map fun q => q.2.2) vm w → (f 0 = im0.map fun q => q.1) ∧ (f 1 = im1.map fun q => q.1) → HP G (fun q : Nat => s.heap.size ≤ q) s [uX11 G ox ax vob, uX9 G (ax 0) an vn, uG G (ax 1) f, uA G 200 (ax 2) tx, uX8 G (ax 9) (fun _ => ok) vsw, uX2 G ok akd, uX8 G (ad 0) (fun _ => ok) vds, uX0 G (ax 10) ad vd, uX6 G (ax 11) (upn asr 0 ok) vse, uX5 G (ax 12) (upn ar 3 t3) vr, uX9 G (ar 0) adr vdr, imU G im0, imU G im1, uX12 G om am vm, uA G 63 (am 0) w, uA G 52 (am 22) nx] H locs → lv_has ls 4 [(0, .ref b), (1, .ref ox), (2, .ref om), (3, .int x3)] → W p l e room_1 s m #[Value.ref b] below meth c H locs (cells + 11) (slots + 69) Q (F0 m 996 ls [])) (hI : Inv vob vn tx (im0.map fun q => q.2.2) (im1.map fun q => q.2.2) vm w) (hfd : (f 0 = im0.map fun q => q.1) ∧ (f 1 = im1.map fun q => q.1)) {H : Heap} {locs : List Loc} {ls : Array Slot} (h : HP G (fun q : Nat => s.heap.size ≤ q) s [uX11 G ox ax vob, uX9 G (ax 0) an vn, uG G (ax 1) f, uA G 200 (ax 2) tx, uX8 G (ax 9) (fun _ => ok) vsw, uX2 G ok akd, uX8 G (ad 0) (fun _ => ok) vds, uX0 G (ax 10) ad vd, uX6 G (ax 11) (upn asr 0 ok) vse, uX5 G (ax 12) (upn ar 3 t3) vr, uX9 G (ar 0) adr vdr, imU G im0, imU G im1, uX12 G om am vm, uA G 63 (am 0) w, uA G 52 (am 22) nx] H locs) (hl : lv_has ls 4 [(0, .ref b), (1, .ref ox), (2, .ref om), (3, .int x3)]) : W p l e room_1 s m #[Value.ref b] below meth c H locs cells slots Q (F0 m 603 ls []) := by
  refine lv_aload_n C.hx C.hb dL_law_603 rfl (lv_at hl 1 rfl) ?_
  obtain ⟨rx, rm, hfx, hfm, heq, hI⟩ := sim_drop hN hI 
  have zmrx := c_X11_drop l G ox ax an (hf := hfx)
  refine g_goI C h zmrx.1 (is := [0, 1]) rfl rfl (g_runV C h (is := [0, 1]) rfl rfl (As := []) (rest := []) (zmrx.2 _) vf_L_74 0 0 rfl rfl hl.1 rfl rfl (Nat.le_of_ble_eq_true rfl) dL_law_604 ⟨Nat.le_of_ble_eq_true rfl, Nat.le_of_ble_eq_true rfl⟩ hcs) (us2 := [uX11 G ox ax rx.2.1, uX9 G (ax 0) an rx.2.2, uG G (ax 1) f, uA G 200 (ax 2) tx, uX8 G (ax 9) (fun _ => ok) vsw, uX2 G ok akd, uX8 G (ad 0) (fun _ => ok) vds, uX0 G (ax 10) ad vd, uX6 G (ax 11) (upn asr 0 ok) vse, uX5 G (ax 12) (upn ar 3 t3) vr, uX9 G (ar 0) adr vdr, imU G im0, imU G im1, uX12 G om am vm, uA G 63 (am 0) w, uA G 52 (am 22) nx]) rfl (fun H locs h => ?_)
  refine lv_aload_n C.hx C.hb dL_law_607 rfl (lv_at hl 2 rfl) ?_
  have zmrm := c_X12_drop l G om am (hf := hfm)
  refine g_goI C h zmrm.1 (is := [13, 14]) rfl rfl (g_runV C h (is := [13, 14]) rfl rfl (As := []) (rest := [.int rx.1]) (zmrm.2 _) vf_L_77 13 0 rfl rfl hl.1 rfl rfl (Nat.le_of_ble_eq_true rfl) dL_law_608 ⟨Nat.le_of_ble_eq_true rfl, Nat.le_of_ble_eq_true rfl⟩ hcs) (us2 := [uX11 G ox ax rx.2.1, uX9 G (ax 0) an rx.2.2, uG G (ax 1) f, uA G 200 (ax 2) tx, uX8 G (ax 9) (fun _ => ok) vsw, uX2 G ok akd, uX8 G (ad 0) (fun _ => ok) vds, uX0 G (ax 10) ad vd, uX6 G (ax 11) (upn asr 0 ok) vse, uX5 G (ax 12) (upn ar 3 t3) vr, uX9 G (ar 0) adr vdr, imU G im0, imU G im1, uX12 G om am rm.2.1, uA G 63 (am 0) rm.2.2, uA G 52 (am 22) nx]) rfl (fun H locs h => ?_)
  refine lv_icmp_eq (tgt := 996) C.hx C.hb dL_law_611 (by decide) (fun _ => ?_) (fun zc => absurd heq zc)
  refine W.widen (k := cells + 11) (n := slots + 69) (by omega) (by omega) ?_
  exact hE hI hfd h hl
set_option maxRecDepth 100000 in
set_option maxHeartbeats 4000000 in
theorem lc_order {p : Program} {l : Launch} {e : Env} {s : State} {m : MethodId} {below : List Frame} {meth : Method} {c : Code} {G : GG} {b L : Nat} {xs : Nat → Int32} {ox om ok : Nat} {ax an akd ad asr ar adr am : Nat → Nat} {N : Nat} {vob : US} {vn : US} {vsw : US} {vds : US} {vd : US} {vse : US} {vr : US} {vdr : US} {vm : US} {tx : Nat → Int32} {w : Nat → Int32} {nx : Nat → Int32} {t3 : Nat} {f : Nat → Option Nat} {im0 : Option (Nat × (Nat → Nat) × US)} {im1 : Option (Nat × (Nat → Nat) × US)} {cells slots : Nat} {Q : State → Prop} {x3 : Int32} (hN : 200000 ≤ N) (C : MC RL code 4 ret G (fun q : Nat => s.heap.size ≤ q) p s m #[Value.ref b] meth c) (hX : va_X b L xs s s.heap) (hbl : b < s.heap.size) (hcs : cells ≤ room_1.cells ∧ slots ≤ room_1.slots) (hcj : cells + 11 ≤ room_1.cells ∧ slots + 69 ≤ room_1.slots) (hi1 : vp_in (x3 + 1) L) (hi2 : vp_in (x3 + 2) L) (hi3 : vp_in (x3 + 3) L) (hi4 : vp_in (x3 + 4) L) (hE : ∀ {vob : US} {vn : US} {vsw : US} {vds : US} {vd : US} {vse : US} {vr : US} {vdr : US} {vm : US} {tx : Nat → Int32} {w : Nat → Int32} {nx : Nat → Int32} {t3 : Nat} {f : Nat → Option Nat} {im0 : Option (Nat × (Nat → Nat) × US)} {im1 : Option (Nat × (Nat → Nat) × US)} {H : Heap} {locs : List Loc} {ls : Array Slot}, Inv vob vn tx (im0.map fun q => q.2.2) (im1.map fun q => q.2.2) vm w → (f 0 = im0.map fun q => q.1) ∧ (f 1 = im1.map fun q => q.1) → HP G (fun q : Nat => s.heap.size ≤ q) s [uX11 G ox ax vob, uX9 G (ax 0) an vn, uG G (ax 1) f, uA G 200 (ax 2) tx, uX8 G (ax 9) (fun _ => ok) vsw, uX2 G ok akd, uX8 G (ad 0) (fun _ => ok) vds, uX0 G (ax 10) ad vd, uX6 G (ax 11) (upn asr 0 ok) vse, uX5 G (ax 12) (upn ar 3 t3) vr, uX9 G (ar 0) adr vdr, imU G im0, imU G im1, uX12 G om am vm, uA G 63 (am 0) w, uA G 52 (am 22) nx] H locs → lv_has ls 4 [(0, .ref b), (1, .ref ox), (2, .ref om), (3, .int x3)] → W p l e room_1 s m #[Value.ref b] below meth c H locs (cells + 11) (slots + 69) Q (F0 m 996 ls [])) (hI : Inv vob vn tx (im0.map fun q => q.2.2) (im1.map fun q => q.2.2) vm w) (hfd : (f 0 = im0.map fun q => q.1) ∧ (f 1 = im1.map fun q => q.1)) {H : Heap} {locs : List Loc} {ls : Array Slot} (h : HP G (fun q : Nat => s.heap.size ≤ q) s [uX11 G ox ax vob, uX9 G (ax 0) an vn, uG G (ax 1) f, uA G 200 (ax 2) tx, uX8 G (ax 9) (fun _ => ok) vsw, uX2 G ok akd, uX8 G (ad 0) (fun _ => ok) vds, uX0 G (ax 10) ad vd, uX6 G (ax 11) (upn asr 0 ok) vse, uX5 G (ax 12) (upn ar 3 t3) vr, uX9 G (ar 0) adr vdr, imU G im0, imU G im1, uX12 G om am vm, uA G 63 (am 0) w, uA G 52 (am 22) nx] H locs) (hl : lv_has ls 4 [(0, .ref b), (1, .ref ox), (2, .ref om), (3, .int x3)]) : W p l e room_1 s m #[Value.ref b] below meth c H locs cells slots Q (F0 m 616 ls []) := by
  refine lv_aload_n C.hx C.hb dL_law_616 rfl (lv_at hl 1 rfl) ?_
  refine lv_aload_n C.hx C.hb dL_law_617 rfl (lv_at hl 0 rfl) ?_
  refine lv_iload_n C.hx C.hb dL_law_618 rfl (lv_at hl 3 rfl) ?_
  refine lv_iconst (v := 1) C.hx C.hb dL_law_619 (by decide) ?_
  refine lv_iadd C.hx C.hb dL_law_620 ?_
  refine va_sld C.hx C.hb hX hbl (Nat.not_le.mpr hbl) h.2.2 hi1 dL_law_621 ?_
  obtain ⟨rx, rm, hfx, hfm, heq, hI⟩ := sim_order hN hI vd vds (xs (x3 + 1).toNatClampNeg)
  have zmrx := c_X11_order l G ox ax ad (fun _ => ok) akd an N (hf := hfx)
  refine g_goI C h zmrx.1 (is := [0, 7, 6, 5, 1]) rfl rfl (g_runV C h (is := [0, 7, 6, 5, 1]) rfl rfl (As := [.int (xs (x3 + 1).toNatClampNeg)]) (rest := []) (zmrx.2 _) vf_L_78 0 0 rfl rfl hl.1 rfl rfl (Nat.le_of_ble_eq_true rfl) dL_law_622 ⟨Nat.le_of_ble_eq_true rfl, Nat.le_of_ble_eq_true rfl⟩ hcs) (us2 := [uX11 G ox ax rx.2.1, uX9 G (ax 0) an vn, uG G (ax 1) f, uA G 200 (ax 2) tx, uX8 G (ax 9) (fun _ => ok) vsw, uX2 G ok akd, uX8 G (ad 0) (fun _ => ok) rx.2.2.2, uX0 G (ax 10) ad rx.2.2.1, uX6 G (ax 11) (upn asr 0 ok) vse, uX5 G (ax 12) (upn ar 3 t3) vr, uX9 G (ar 0) adr vdr, imU G im0, imU G im1, uX12 G om am vm, uA G 63 (am 0) w, uA G 52 (am 22) nx]) rfl (fun H locs h => ?_)
  refine lv_aload_n C.hx C.hb dL_law_625 rfl (lv_at hl 2 rfl) ?_
  refine lv_aload_n C.hx C.hb dL_law_626 rfl (lv_at hl 0 rfl) ?_
  refine lv_iload_n C.hx C.hb dL_law_627 rfl (lv_at hl 3 rfl) ?_
  refine lv_iconst (v := 1) C.hx C.hb dL_law_628 (by decide) ?_
  refine lv_iadd C.hx C.hb dL_law_629 ?_
  refine va_sld C.hx C.hb hX hbl (Nat.not_le.mpr hbl) h.2.2 hi1 dL_law_630 ?_
  have zmrm := c_X12_order l G om am N (hf := hfm)
  refine g_goI C h zmrm.1 (is := [13, 14]) rfl rfl (g_runV C h (is := [13, 14]) rfl rfl (As := [.int (xs (x3 + 1).toNatClampNeg)]) (rest := [.int rx.1]) (zmrm.2 _) vf_L_81 13 0 rfl rfl hl.1 rfl rfl (Nat.le_of_ble_eq_true rfl) dL_law_631 ⟨Nat.le_of_ble_eq_true rfl, Nat.le_of_ble_eq_true rfl⟩ hcs) (us2 := [uX11 G ox ax rx.2.1, uX9 G (ax 0) an vn, uG G (ax 1) f, uA G 200 (ax 2) tx, uX8 G (ax 9) (fun _ => ok) vsw, uX2 G ok akd, uX8 G (ad 0) (fun _ => ok) rx.2.2.2, uX0 G (ax 10) ad rx.2.2.1, uX6 G (ax 11) (upn asr 0 ok) vse, uX5 G (ax 12) (upn ar 3 t3) vr, uX9 G (ar 0) adr vdr, imU G im0, imU G im1, uX12 G om am rm.2, uA G 63 (am 0) w, uA G 52 (am 22) nx]) rfl (fun H locs h => ?_)
  refine lv_icmp_eq (tgt := 996) C.hx C.hb dL_law_634 (by decide) (fun _ => ?_) (fun zc => absurd heq zc)
  refine W.widen (k := cells + 11) (n := slots + 69) (by omega) (by omega) ?_
  exact hE hI hfd h hl
set_option maxRecDepth 100000 in
set_option maxHeartbeats 4000000 in
theorem lc_code {p : Program} {l : Launch} {e : Env} {s : State} {m : MethodId} {below : List Frame} {meth : Method} {c : Code} {G : GG} {b L : Nat} {xs : Nat → Int32} {ox om ok : Nat} {ax an akd ad asr ar adr am : Nat → Nat} {N : Nat} {vob : US} {vn : US} {vsw : US} {vds : US} {vd : US} {vse : US} {vr : US} {vdr : US} {vm : US} {tx : Nat → Int32} {w : Nat → Int32} {nx : Nat → Int32} {t3 : Nat} {f : Nat → Option Nat} {im0 : Option (Nat × (Nat → Nat) × US)} {im1 : Option (Nat × (Nat → Nat) × US)} {cells slots : Nat} {Q : State → Prop} {x3 : Int32} (hN : 200000 ≤ N) (C : MC RL code 4 ret G (fun q : Nat => s.heap.size ≤ q) p s m #[Value.ref b] meth c) (hX : va_X b L xs s s.heap) (hbl : b < s.heap.size) (hcs : cells ≤ room_1.cells ∧ slots ≤ room_1.slots) (hcj : cells + 11 ≤ room_1.cells ∧ slots + 69 ≤ room_1.slots) (hi1 : vp_in (x3 + 1) L) (hi2 : vp_in (x3 + 2) L) (hi3 : vp_in (x3 + 3) L) (hi4 : vp_in (x3 + 4) L) (hE : ∀ {vob : US} {vn : US} {vsw : US} {vds : US} {vd : US} {vse : US} {vr : US} {vdr : US} {vm : US} {tx : Nat → Int32} {w : Nat → Int32} {nx : Nat → Int32} {t3 : Nat} {f : Nat → Option Nat} {im0 : Option (Nat × (Nat → Nat) × US)} {im1 : Option (Nat × (Nat → Nat) × US)} {H : Heap} {locs : List Loc} {ls : Array Slot}, Inv vob vn tx (im0.map fun q => q.2.2) (im1.map fun q => q.2.2) vm w → (f 0 = im0.map fun q => q.1) ∧ (f 1 = im1.map fun q => q.1) → HP G (fun q : Nat => s.heap.size ≤ q) s [uX11 G ox ax vob, uX9 G (ax 0) an vn, uG G (ax 1) f, uA G 200 (ax 2) tx, uX8 G (ax 9) (fun _ => ok) vsw, uX2 G ok akd, uX8 G (ad 0) (fun _ => ok) vds, uX0 G (ax 10) ad vd, uX6 G (ax 11) (upn asr 0 ok) vse, uX5 G (ax 12) (upn ar 3 t3) vr, uX9 G (ar 0) adr vdr, imU G im0, imU G im1, uX12 G om am vm, uA G 63 (am 0) w, uA G 52 (am 22) nx] H locs → lv_has ls 4 [(0, .ref b), (1, .ref ox), (2, .ref om), (3, .int x3)] → W p l e room_1 s m #[Value.ref b] below meth c H locs (cells + 11) (slots + 69) Q (F0 m 996 ls [])) (hI : Inv vob vn tx (im0.map fun q => q.2.2) (im1.map fun q => q.2.2) vm w) (hfd : (f 0 = im0.map fun q => q.1) ∧ (f 1 = im1.map fun q => q.1)) {H : Heap} {locs : List Loc} {ls : Array Slot} (h : HP G (fun q : Nat => s.heap.size ≤ q) s [uX11 G ox ax vob, uX9 G (ax 0) an vn, uG G (ax 1) f, uA G 200 (ax 2) tx, uX8 G (ax 9) (fun _ => ok) vsw, uX2 G ok akd, uX8 G (ad 0) (fun _ => ok) vds, uX0 G (ax 10) ad vd, uX6 G (ax 11) (upn asr 0 ok) vse, uX5 G (ax 12) (upn ar 3 t3) vr, uX9 G (ar 0) adr vdr, imU G im0, imU G im1, uX12 G om am vm, uA G 63 (am 0) w, uA G 52 (am 22) nx] H locs) (hl : lv_has ls 4 [(0, .ref b), (1, .ref ox), (2, .ref om), (3, .int x3)]) : W p l e room_1 s m #[Value.ref b] below meth c H locs cells slots Q (F0 m 639 ls []) := by
  refine lv_aload_n C.hx C.hb dL_law_639 rfl (lv_at hl 1 rfl) ?_
  refine lv_aload_n C.hx C.hb dL_law_640 rfl (lv_at hl 0 rfl) ?_
  refine lv_iload_n C.hx C.hb dL_law_641 rfl (lv_at hl 3 rfl) ?_
  refine lv_iconst (v := 1) C.hx C.hb dL_law_642 (by decide) ?_
  refine lv_iadd C.hx C.hb dL_law_643 ?_
  refine va_sld C.hx C.hb hX hbl (Nat.not_le.mpr hbl) h.2.2 hi1 dL_law_644 ?_
  refine lv_aload_n C.hx C.hb dL_law_645 rfl (lv_at hl 0 rfl) ?_
  refine lv_iload_n C.hx C.hb dL_law_646 rfl (lv_at hl 3 rfl) ?_
  refine lv_iconst (v := 2) C.hx C.hb dL_law_647 (by decide) ?_
  refine lv_iadd C.hx C.hb dL_law_648 ?_
  refine va_sld C.hx C.hb hX hbl (Nat.not_le.mpr hbl) h.2.2 hi2 dL_law_649 ?_
  obtain ⟨rx, rm, hfx, hfm, heq, hI⟩ := sim_code hN hI vd vds (xs (x3 + 1).toNatClampNeg) (xs (x3 + 2).toNatClampNeg)
  have zmrx := c_X11_code l G ox ax ad (fun _ => ok) akd an N (hf := hfx)
  refine g_goI C h zmrx.1 (is := [0, 7, 6, 5, 1]) rfl rfl (g_runV C h (is := [0, 7, 6, 5, 1]) rfl rfl (As := [.int (xs (x3 + 1).toNatClampNeg), .int (xs (x3 + 2).toNatClampNeg)]) (rest := []) (zmrx.2 _) vf_L_82 0 0 rfl rfl hl.1 rfl rfl (Nat.le_of_ble_eq_true rfl) dL_law_650 ⟨Nat.le_of_ble_eq_true rfl, Nat.le_of_ble_eq_true rfl⟩ hcs) (us2 := [uX11 G ox ax rx.2.1, uX9 G (ax 0) an vn, uG G (ax 1) f, uA G 200 (ax 2) tx, uX8 G (ax 9) (fun _ => ok) vsw, uX2 G ok akd, uX8 G (ad 0) (fun _ => ok) rx.2.2.2, uX0 G (ax 10) ad rx.2.2.1, uX6 G (ax 11) (upn asr 0 ok) vse, uX5 G (ax 12) (upn ar 3 t3) vr, uX9 G (ar 0) adr vdr, imU G im0, imU G im1, uX12 G om am vm, uA G 63 (am 0) w, uA G 52 (am 22) nx]) rfl (fun H locs h => ?_)
  refine lv_aload_n C.hx C.hb dL_law_653 rfl (lv_at hl 2 rfl) ?_
  refine lv_aload_n C.hx C.hb dL_law_654 rfl (lv_at hl 0 rfl) ?_
  refine lv_iload_n C.hx C.hb dL_law_655 rfl (lv_at hl 3 rfl) ?_
  refine lv_iconst (v := 1) C.hx C.hb dL_law_656 (by decide) ?_
  refine lv_iadd C.hx C.hb dL_law_657 ?_
  refine va_sld C.hx C.hb hX hbl (Nat.not_le.mpr hbl) h.2.2 hi1 dL_law_658 ?_
  refine lv_aload_n C.hx C.hb dL_law_659 rfl (lv_at hl 0 rfl) ?_
  refine lv_iload_n C.hx C.hb dL_law_660 rfl (lv_at hl 3 rfl) ?_
  refine lv_iconst (v := 2) C.hx C.hb dL_law_661 (by decide) ?_
  refine lv_iadd C.hx C.hb dL_law_662 ?_
  refine va_sld C.hx C.hb hX hbl (Nat.not_le.mpr hbl) h.2.2 hi2 dL_law_663 ?_
  have zmrm := c_X12_code l G om am N (hf := hfm)
  refine g_goI C h zmrm.1 (is := [13, 14]) rfl rfl (g_runV C h (is := [13, 14]) rfl rfl (As := [.int (xs (x3 + 1).toNatClampNeg), .int (xs (x3 + 2).toNatClampNeg)]) (rest := [.int rx.1]) (zmrm.2 _) vf_L_85 13 0 rfl rfl hl.1 rfl rfl (Nat.le_of_ble_eq_true rfl) dL_law_664 ⟨Nat.le_of_ble_eq_true rfl, Nat.le_of_ble_eq_true rfl⟩ hcs) (us2 := [uX11 G ox ax rx.2.1, uX9 G (ax 0) an vn, uG G (ax 1) f, uA G 200 (ax 2) tx, uX8 G (ax 9) (fun _ => ok) vsw, uX2 G ok akd, uX8 G (ad 0) (fun _ => ok) rx.2.2.2, uX0 G (ax 10) ad rx.2.2.1, uX6 G (ax 11) (upn asr 0 ok) vse, uX5 G (ax 12) (upn ar 3 t3) vr, uX9 G (ar 0) adr vdr, imU G im0, imU G im1, uX12 G om am rm.2, uA G 63 (am 0) w, uA G 52 (am 22) nx]) rfl (fun H locs h => ?_)
  refine lv_icmp_eq (tgt := 996) C.hx C.hb dL_law_667 (by decide) (fun _ => ?_) (fun zc => absurd heq zc)
  refine W.widen (k := cells + 11) (n := slots + 69) (by omega) (by omega) ?_
  exact hE hI hfd h hl
set_option maxRecDepth 100000 in
set_option maxHeartbeats 4000000 in
theorem lc_who {p : Program} {l : Launch} {e : Env} {s : State} {m : MethodId} {below : List Frame} {meth : Method} {c : Code} {G : GG} {b L : Nat} {xs : Nat → Int32} {ox om ok : Nat} {ax an akd ad asr ar adr am : Nat → Nat} {N : Nat} {vob : US} {vn : US} {vsw : US} {vds : US} {vd : US} {vse : US} {vr : US} {vdr : US} {vm : US} {tx : Nat → Int32} {w : Nat → Int32} {nx : Nat → Int32} {t3 : Nat} {f : Nat → Option Nat} {im0 : Option (Nat × (Nat → Nat) × US)} {im1 : Option (Nat × (Nat → Nat) × US)} {cells slots : Nat} {Q : State → Prop} {x3 : Int32} (hN : 200000 ≤ N) (C : MC RL code 4 ret G (fun q : Nat => s.heap.size ≤ q) p s m #[Value.ref b] meth c) (hX : va_X b L xs s s.heap) (hbl : b < s.heap.size) (hcs : cells ≤ room_1.cells ∧ slots ≤ room_1.slots) (hcj : cells + 11 ≤ room_1.cells ∧ slots + 69 ≤ room_1.slots) (hi1 : vp_in (x3 + 1) L) (hi2 : vp_in (x3 + 2) L) (hi3 : vp_in (x3 + 3) L) (hi4 : vp_in (x3 + 4) L) (hE : ∀ {vob : US} {vn : US} {vsw : US} {vds : US} {vd : US} {vse : US} {vr : US} {vdr : US} {vm : US} {tx : Nat → Int32} {w : Nat → Int32} {nx : Nat → Int32} {t3 : Nat} {f : Nat → Option Nat} {im0 : Option (Nat × (Nat → Nat) × US)} {im1 : Option (Nat × (Nat → Nat) × US)} {H : Heap} {locs : List Loc} {ls : Array Slot}, Inv vob vn tx (im0.map fun q => q.2.2) (im1.map fun q => q.2.2) vm w → (f 0 = im0.map fun q => q.1) ∧ (f 1 = im1.map fun q => q.1) → HP G (fun q : Nat => s.heap.size ≤ q) s [uX11 G ox ax vob, uX9 G (ax 0) an vn, uG G (ax 1) f, uA G 200 (ax 2) tx, uX8 G (ax 9) (fun _ => ok) vsw, uX2 G ok akd, uX8 G (ad 0) (fun _ => ok) vds, uX0 G (ax 10) ad vd, uX6 G (ax 11) (upn asr 0 ok) vse, uX5 G (ax 12) (upn ar 3 t3) vr, uX9 G (ar 0) adr vdr, imU G im0, imU G im1, uX12 G om am vm, uA G 63 (am 0) w, uA G 52 (am 22) nx] H locs → lv_has ls 4 [(0, .ref b), (1, .ref ox), (2, .ref om), (3, .int x3)] → W p l e room_1 s m #[Value.ref b] below meth c H locs (cells + 11) (slots + 69) Q (F0 m 996 ls [])) (hI : Inv vob vn tx (im0.map fun q => q.2.2) (im1.map fun q => q.2.2) vm w) (hfd : (f 0 = im0.map fun q => q.1) ∧ (f 1 = im1.map fun q => q.1)) {H : Heap} {locs : List Loc} {ls : Array Slot} (h : HP G (fun q : Nat => s.heap.size ≤ q) s [uX11 G ox ax vob, uX9 G (ax 0) an vn, uG G (ax 1) f, uA G 200 (ax 2) tx, uX8 G (ax 9) (fun _ => ok) vsw, uX2 G ok akd, uX8 G (ad 0) (fun _ => ok) vds, uX0 G (ax 10) ad vd, uX6 G (ax 11) (upn asr 0 ok) vse, uX5 G (ax 12) (upn ar 3 t3) vr, uX9 G (ar 0) adr vdr, imU G im0, imU G im1, uX12 G om am vm, uA G 63 (am 0) w, uA G 52 (am 22) nx] H locs) (hl : lv_has ls 4 [(0, .ref b), (1, .ref ox), (2, .ref om), (3, .int x3)]) : W p l e room_1 s m #[Value.ref b] below meth c H locs cells slots Q (F0 m 672 ls []) := by
  refine lv_aload_n C.hx C.hb dL_law_672 rfl (lv_at hl 1 rfl) ?_
  refine lv_aload_n C.hx C.hb dL_law_673 rfl (lv_at hl 0 rfl) ?_
  refine lv_iload_n C.hx C.hb dL_law_674 rfl (lv_at hl 3 rfl) ?_
  refine lv_iconst (v := 1) C.hx C.hb dL_law_675 (by decide) ?_
  refine lv_iadd C.hx C.hb dL_law_676 ?_
  refine va_sld C.hx C.hb hX hbl (Nat.not_le.mpr hbl) h.2.2 hi1 dL_law_677 ?_
  refine lv_aload_n C.hx C.hb dL_law_678 rfl (lv_at hl 0 rfl) ?_
  refine lv_iload_n C.hx C.hb dL_law_679 rfl (lv_at hl 3 rfl) ?_
  refine lv_iconst (v := 2) C.hx C.hb dL_law_680 (by decide) ?_
  refine lv_iadd C.hx C.hb dL_law_681 ?_
  refine va_sld C.hx C.hb hX hbl (Nat.not_le.mpr hbl) h.2.2 hi2 dL_law_682 ?_
  obtain ⟨rx, rm, hfx, hfm, heq, hI⟩ := sim_who hN hI vd vds (xs (x3 + 1).toNatClampNeg) (xs (x3 + 2).toNatClampNeg)
  have zmrx := c_X11_who l G ox ax ad (fun _ => ok) akd an N (hf := hfx)
  refine g_goI C h zmrx.1 (is := [0, 7, 6, 5, 1]) rfl rfl (g_runV C h (is := [0, 7, 6, 5, 1]) rfl rfl (As := [.int (xs (x3 + 1).toNatClampNeg), .int (xs (x3 + 2).toNatClampNeg)]) (rest := []) (zmrx.2 _) vf_L_86 0 0 rfl rfl hl.1 rfl rfl (Nat.le_of_ble_eq_true rfl) dL_law_683 ⟨Nat.le_of_ble_eq_true rfl, Nat.le_of_ble_eq_true rfl⟩ hcs) (us2 := [uX11 G ox ax rx.2.1, uX9 G (ax 0) an vn, uG G (ax 1) f, uA G 200 (ax 2) tx, uX8 G (ax 9) (fun _ => ok) vsw, uX2 G ok akd, uX8 G (ad 0) (fun _ => ok) rx.2.2.2, uX0 G (ax 10) ad rx.2.2.1, uX6 G (ax 11) (upn asr 0 ok) vse, uX5 G (ax 12) (upn ar 3 t3) vr, uX9 G (ar 0) adr vdr, imU G im0, imU G im1, uX12 G om am vm, uA G 63 (am 0) w, uA G 52 (am 22) nx]) rfl (fun H locs h => ?_)
  refine lv_aload_n C.hx C.hb dL_law_686 rfl (lv_at hl 2 rfl) ?_
  refine lv_aload_n C.hx C.hb dL_law_687 rfl (lv_at hl 0 rfl) ?_
  refine lv_iload_n C.hx C.hb dL_law_688 rfl (lv_at hl 3 rfl) ?_
  refine lv_iconst (v := 1) C.hx C.hb dL_law_689 (by decide) ?_
  refine lv_iadd C.hx C.hb dL_law_690 ?_
  refine va_sld C.hx C.hb hX hbl (Nat.not_le.mpr hbl) h.2.2 hi1 dL_law_691 ?_
  refine lv_aload_n C.hx C.hb dL_law_692 rfl (lv_at hl 0 rfl) ?_
  refine lv_iload_n C.hx C.hb dL_law_693 rfl (lv_at hl 3 rfl) ?_
  refine lv_iconst (v := 2) C.hx C.hb dL_law_694 (by decide) ?_
  refine lv_iadd C.hx C.hb dL_law_695 ?_
  refine va_sld C.hx C.hb hX hbl (Nat.not_le.mpr hbl) h.2.2 hi2 dL_law_696 ?_
  have zmrm := c_X12_who l G om am N (hf := hfm)
  refine g_goI C h zmrm.1 (is := [13, 14]) rfl rfl (g_runV C h (is := [13, 14]) rfl rfl (As := [.int (xs (x3 + 1).toNatClampNeg), .int (xs (x3 + 2).toNatClampNeg)]) (rest := [.int rx.1]) (zmrm.2 _) vf_L_89 13 0 rfl rfl hl.1 rfl rfl (Nat.le_of_ble_eq_true rfl) dL_law_697 ⟨Nat.le_of_ble_eq_true rfl, Nat.le_of_ble_eq_true rfl⟩ hcs) (us2 := [uX11 G ox ax rx.2.1, uX9 G (ax 0) an vn, uG G (ax 1) f, uA G 200 (ax 2) tx, uX8 G (ax 9) (fun _ => ok) vsw, uX2 G ok akd, uX8 G (ad 0) (fun _ => ok) rx.2.2.2, uX0 G (ax 10) ad rx.2.2.1, uX6 G (ax 11) (upn asr 0 ok) vse, uX5 G (ax 12) (upn ar 3 t3) vr, uX9 G (ar 0) adr vdr, imU G im0, imU G im1, uX12 G om am rm.2, uA G 63 (am 0) w, uA G 52 (am 22) nx]) rfl (fun H locs h => ?_)
  refine lv_icmp_eq (tgt := 996) C.hx C.hb dL_law_700 (by decide) (fun _ => ?_) (fun zc => absurd heq zc)
  refine W.widen (k := cells + 11) (n := slots + 69) (by omega) (by omega) ?_
  exact hE hI hfd h hl
set_option maxRecDepth 100000 in
set_option maxHeartbeats 4000000 in
theorem lc_heard {p : Program} {l : Launch} {e : Env} {s : State} {m : MethodId} {below : List Frame} {meth : Method} {c : Code} {G : GG} {b L : Nat} {xs : Nat → Int32} {ox om ok : Nat} {ax an akd ad asr ar adr am : Nat → Nat} {N : Nat} {vob : US} {vn : US} {vsw : US} {vds : US} {vd : US} {vse : US} {vr : US} {vdr : US} {vm : US} {tx : Nat → Int32} {w : Nat → Int32} {nx : Nat → Int32} {t3 : Nat} {f : Nat → Option Nat} {im0 : Option (Nat × (Nat → Nat) × US)} {im1 : Option (Nat × (Nat → Nat) × US)} {cells slots : Nat} {Q : State → Prop} {x3 : Int32} (hN : 200000 ≤ N) (C : MC RL code 4 ret G (fun q : Nat => s.heap.size ≤ q) p s m #[Value.ref b] meth c) (hX : va_X b L xs s s.heap) (hbl : b < s.heap.size) (hcs : cells ≤ room_1.cells ∧ slots ≤ room_1.slots) (hcj : cells + 11 ≤ room_1.cells ∧ slots + 69 ≤ room_1.slots) (hi1 : vp_in (x3 + 1) L) (hi2 : vp_in (x3 + 2) L) (hi3 : vp_in (x3 + 3) L) (hi4 : vp_in (x3 + 4) L) (hE : ∀ {vob : US} {vn : US} {vsw : US} {vds : US} {vd : US} {vse : US} {vr : US} {vdr : US} {vm : US} {tx : Nat → Int32} {w : Nat → Int32} {nx : Nat → Int32} {t3 : Nat} {f : Nat → Option Nat} {im0 : Option (Nat × (Nat → Nat) × US)} {im1 : Option (Nat × (Nat → Nat) × US)} {H : Heap} {locs : List Loc} {ls : Array Slot}, Inv vob vn tx (im0.map fun q => q.2.2) (im1.map fun q => q.2.2) vm w → (f 0 = im0.map fun q => q.1) ∧ (f 1 = im1.map fun q => q.1) → HP G (fun q : Nat => s.heap.size ≤ q) s [uX11 G ox ax vob, uX9 G (ax 0) an vn, uG G (ax 1) f, uA G 200 (ax 2) tx, uX8 G (ax 9) (fun _ => ok) vsw, uX2 G ok akd, uX8 G (ad 0) (fun _ => ok) vds, uX0 G (ax 10) ad vd, uX6 G (ax 11) (upn asr 0 ok) vse, uX5 G (ax 12) (upn ar 3 t3) vr, uX9 G (ar 0) adr vdr, imU G im0, imU G im1, uX12 G om am vm, uA G 63 (am 0) w, uA G 52 (am 22) nx] H locs → lv_has ls 4 [(0, .ref b), (1, .ref ox), (2, .ref om), (3, .int x3)] → W p l e room_1 s m #[Value.ref b] below meth c H locs (cells + 11) (slots + 69) Q (F0 m 996 ls [])) (hI : Inv vob vn tx (im0.map fun q => q.2.2) (im1.map fun q => q.2.2) vm w) (hfd : (f 0 = im0.map fun q => q.1) ∧ (f 1 = im1.map fun q => q.1)) {H : Heap} {locs : List Loc} {ls : Array Slot} (h : HP G (fun q : Nat => s.heap.size ≤ q) s [uX11 G ox ax vob, uX9 G (ax 0) an vn, uG G (ax 1) f, uA G 200 (ax 2) tx, uX8 G (ax 9) (fun _ => ok) vsw, uX2 G ok akd, uX8 G (ad 0) (fun _ => ok) vds, uX0 G (ax 10) ad vd, uX6 G (ax 11) (upn asr 0 ok) vse, uX5 G (ax 12) (upn ar 3 t3) vr, uX9 G (ar 0) adr vdr, imU G im0, imU G im1, uX12 G om am vm, uA G 63 (am 0) w, uA G 52 (am 22) nx] H locs) (hl : lv_has ls 4 [(0, .ref b), (1, .ref ox), (2, .ref om), (3, .int x3)]) : W p l e room_1 s m #[Value.ref b] below meth c H locs cells slots Q (F0 m 705 ls []) := by
  refine lv_aload_n C.hx C.hb dL_law_705 rfl (lv_at hl 1 rfl) ?_
  refine lv_aload_n C.hx C.hb dL_law_706 rfl (lv_at hl 0 rfl) ?_
  refine lv_iload_n C.hx C.hb dL_law_707 rfl (lv_at hl 3 rfl) ?_
  refine lv_iconst (v := 1) C.hx C.hb dL_law_708 (by decide) ?_
  refine lv_iadd C.hx C.hb dL_law_709 ?_
  refine va_sld C.hx C.hb hX hbl (Nat.not_le.mpr hbl) h.2.2 hi1 dL_law_710 ?_
  obtain ⟨rx, rm, hfx, hfm, heq, hI⟩ := sim_heard hN hI vd vds (xs (x3 + 1).toNatClampNeg)
  have zmrx := c_X11_heard l G ox ax ad (fun _ => ok) akd an N (hf := hfx)
  refine g_goI C h zmrx.1 (is := [0, 7, 6, 5, 1]) rfl rfl (g_runV C h (is := [0, 7, 6, 5, 1]) rfl rfl (As := [.int (xs (x3 + 1).toNatClampNeg)]) (rest := []) (zmrx.2 _) vf_L_90 0 0 rfl rfl hl.1 rfl rfl (Nat.le_of_ble_eq_true rfl) dL_law_711 ⟨Nat.le_of_ble_eq_true rfl, Nat.le_of_ble_eq_true rfl⟩ hcs) (us2 := [uX11 G ox ax rx.2.1, uX9 G (ax 0) an vn, uG G (ax 1) f, uA G 200 (ax 2) tx, uX8 G (ax 9) (fun _ => ok) vsw, uX2 G ok akd, uX8 G (ad 0) (fun _ => ok) rx.2.2.2, uX0 G (ax 10) ad rx.2.2.1, uX6 G (ax 11) (upn asr 0 ok) vse, uX5 G (ax 12) (upn ar 3 t3) vr, uX9 G (ar 0) adr vdr, imU G im0, imU G im1, uX12 G om am vm, uA G 63 (am 0) w, uA G 52 (am 22) nx]) rfl (fun H locs h => ?_)
  refine lv_aload_n C.hx C.hb dL_law_714 rfl (lv_at hl 2 rfl) ?_
  refine lv_aload_n C.hx C.hb dL_law_715 rfl (lv_at hl 0 rfl) ?_
  refine lv_iload_n C.hx C.hb dL_law_716 rfl (lv_at hl 3 rfl) ?_
  refine lv_iconst (v := 1) C.hx C.hb dL_law_717 (by decide) ?_
  refine lv_iadd C.hx C.hb dL_law_718 ?_
  refine va_sld C.hx C.hb hX hbl (Nat.not_le.mpr hbl) h.2.2 hi1 dL_law_719 ?_
  have zmrm := c_X12_heard l G om am N (hf := hfm)
  refine g_goI C h zmrm.1 (is := [13, 14]) rfl rfl (g_runV C h (is := [13, 14]) rfl rfl (As := [.int (xs (x3 + 1).toNatClampNeg)]) (rest := [.int rx.1]) (zmrm.2 _) vf_L_93 13 0 rfl rfl hl.1 rfl rfl (Nat.le_of_ble_eq_true rfl) dL_law_720 ⟨Nat.le_of_ble_eq_true rfl, Nat.le_of_ble_eq_true rfl⟩ hcs) (us2 := [uX11 G ox ax rx.2.1, uX9 G (ax 0) an vn, uG G (ax 1) f, uA G 200 (ax 2) tx, uX8 G (ax 9) (fun _ => ok) vsw, uX2 G ok akd, uX8 G (ad 0) (fun _ => ok) rx.2.2.2, uX0 G (ax 10) ad rx.2.2.1, uX6 G (ax 11) (upn asr 0 ok) vse, uX5 G (ax 12) (upn ar 3 t3) vr, uX9 G (ar 0) adr vdr, imU G im0, imU G im1, uX12 G om am rm.2, uA G 63 (am 0) w, uA G 52 (am 22) nx]) rfl (fun H locs h => ?_)
  refine lv_icmp_eq (tgt := 996) C.hx C.hb dL_law_723 (by decide) (fun _ => ?_) (fun zc => absurd heq zc)
  refine W.widen (k := cells + 11) (n := slots + 69) (by omega) (by omega) ?_
  exact hE hI hfd h hl
set_option maxRecDepth 100000 in
set_option maxHeartbeats 4000000 in
theorem lc_cuts {p : Program} {l : Launch} {e : Env} {s : State} {m : MethodId} {below : List Frame} {meth : Method} {c : Code} {G : GG} {b L : Nat} {xs : Nat → Int32} {ox om ok : Nat} {ax an akd ad asr ar adr am : Nat → Nat} {N : Nat} {vob : US} {vn : US} {vsw : US} {vds : US} {vd : US} {vse : US} {vr : US} {vdr : US} {vm : US} {tx : Nat → Int32} {w : Nat → Int32} {nx : Nat → Int32} {t3 : Nat} {f : Nat → Option Nat} {im0 : Option (Nat × (Nat → Nat) × US)} {im1 : Option (Nat × (Nat → Nat) × US)} {cells slots : Nat} {Q : State → Prop} {x3 : Int32} (hN : 200000 ≤ N) (C : MC RL code 4 ret G (fun q : Nat => s.heap.size ≤ q) p s m #[Value.ref b] meth c) (hX : va_X b L xs s s.heap) (hbl : b < s.heap.size) (hcs : cells ≤ room_1.cells ∧ slots ≤ room_1.slots) (hcj : cells + 11 ≤ room_1.cells ∧ slots + 69 ≤ room_1.slots) (hi1 : vp_in (x3 + 1) L) (hi2 : vp_in (x3 + 2) L) (hi3 : vp_in (x3 + 3) L) (hi4 : vp_in (x3 + 4) L) (hE : ∀ {vob : US} {vn : US} {vsw : US} {vds : US} {vd : US} {vse : US} {vr : US} {vdr : US} {vm : US} {tx : Nat → Int32} {w : Nat → Int32} {nx : Nat → Int32} {t3 : Nat} {f : Nat → Option Nat} {im0 : Option (Nat × (Nat → Nat) × US)} {im1 : Option (Nat × (Nat → Nat) × US)} {H : Heap} {locs : List Loc} {ls : Array Slot}, Inv vob vn tx (im0.map fun q => q.2.2) (im1.map fun q => q.2.2) vm w → (f 0 = im0.map fun q => q.1) ∧ (f 1 = im1.map fun q => q.1) → HP G (fun q : Nat => s.heap.size ≤ q) s [uX11 G ox ax vob, uX9 G (ax 0) an vn, uG G (ax 1) f, uA G 200 (ax 2) tx, uX8 G (ax 9) (fun _ => ok) vsw, uX2 G ok akd, uX8 G (ad 0) (fun _ => ok) vds, uX0 G (ax 10) ad vd, uX6 G (ax 11) (upn asr 0 ok) vse, uX5 G (ax 12) (upn ar 3 t3) vr, uX9 G (ar 0) adr vdr, imU G im0, imU G im1, uX12 G om am vm, uA G 63 (am 0) w, uA G 52 (am 22) nx] H locs → lv_has ls 4 [(0, .ref b), (1, .ref ox), (2, .ref om), (3, .int x3)] → W p l e room_1 s m #[Value.ref b] below meth c H locs (cells + 11) (slots + 69) Q (F0 m 996 ls [])) (hI : Inv vob vn tx (im0.map fun q => q.2.2) (im1.map fun q => q.2.2) vm w) (hfd : (f 0 = im0.map fun q => q.1) ∧ (f 1 = im1.map fun q => q.1)) {H : Heap} {locs : List Loc} {ls : Array Slot} (h : HP G (fun q : Nat => s.heap.size ≤ q) s [uX11 G ox ax vob, uX9 G (ax 0) an vn, uG G (ax 1) f, uA G 200 (ax 2) tx, uX8 G (ax 9) (fun _ => ok) vsw, uX2 G ok akd, uX8 G (ad 0) (fun _ => ok) vds, uX0 G (ax 10) ad vd, uX6 G (ax 11) (upn asr 0 ok) vse, uX5 G (ax 12) (upn ar 3 t3) vr, uX9 G (ar 0) adr vdr, imU G im0, imU G im1, uX12 G om am vm, uA G 63 (am 0) w, uA G 52 (am 22) nx] H locs) (hl : lv_has ls 4 [(0, .ref b), (1, .ref ox), (2, .ref om), (3, .int x3)]) : W p l e room_1 s m #[Value.ref b] below meth c H locs cells slots Q (F0 m 728 ls []) := by
  refine lv_aload_n C.hx C.hb dL_law_728 rfl (lv_at hl 1 rfl) ?_
  refine lv_aload_n C.hx C.hb dL_law_729 rfl (lv_at hl 0 rfl) ?_
  refine lv_iload_n C.hx C.hb dL_law_730 rfl (lv_at hl 3 rfl) ?_
  refine lv_iconst (v := 1) C.hx C.hb dL_law_731 (by decide) ?_
  refine lv_iadd C.hx C.hb dL_law_732 ?_
  refine va_sld C.hx C.hb hX hbl (Nat.not_le.mpr hbl) h.2.2 hi1 dL_law_733 ?_
  obtain ⟨rx, rm, hfx, hfm, heq, hI⟩ := sim_cuts hN hI vd vds (xs (x3 + 1).toNatClampNeg)
  have zmrx := c_X11_cuts l G ox ax ad (fun _ => ok) akd an N (hf := hfx)
  refine g_goI C h zmrx.1 (is := [0, 7, 6, 5, 1]) rfl rfl (g_runV C h (is := [0, 7, 6, 5, 1]) rfl rfl (As := [.int (xs (x3 + 1).toNatClampNeg)]) (rest := []) (zmrx.2 _) vf_L_94 0 0 rfl rfl hl.1 rfl rfl (Nat.le_of_ble_eq_true rfl) dL_law_734 ⟨Nat.le_of_ble_eq_true rfl, Nat.le_of_ble_eq_true rfl⟩ hcs) (us2 := [uX11 G ox ax rx.2.1, uX9 G (ax 0) an vn, uG G (ax 1) f, uA G 200 (ax 2) tx, uX8 G (ax 9) (fun _ => ok) vsw, uX2 G ok akd, uX8 G (ad 0) (fun _ => ok) rx.2.2.2, uX0 G (ax 10) ad rx.2.2.1, uX6 G (ax 11) (upn asr 0 ok) vse, uX5 G (ax 12) (upn ar 3 t3) vr, uX9 G (ar 0) adr vdr, imU G im0, imU G im1, uX12 G om am vm, uA G 63 (am 0) w, uA G 52 (am 22) nx]) rfl (fun H locs h => ?_)
  refine lv_aload_n C.hx C.hb dL_law_737 rfl (lv_at hl 2 rfl) ?_
  refine lv_aload_n C.hx C.hb dL_law_738 rfl (lv_at hl 0 rfl) ?_
  refine lv_iload_n C.hx C.hb dL_law_739 rfl (lv_at hl 3 rfl) ?_
  refine lv_iconst (v := 1) C.hx C.hb dL_law_740 (by decide) ?_
  refine lv_iadd C.hx C.hb dL_law_741 ?_
  refine va_sld C.hx C.hb hX hbl (Nat.not_le.mpr hbl) h.2.2 hi1 dL_law_742 ?_
  have zmrm := c_X12_cuts l G om am N (hf := hfm)
  refine g_goI C h zmrm.1 (is := [13, 14]) rfl rfl (g_runV C h (is := [13, 14]) rfl rfl (As := [.int (xs (x3 + 1).toNatClampNeg)]) (rest := [.int rx.1]) (zmrm.2 _) vf_L_97 13 0 rfl rfl hl.1 rfl rfl (Nat.le_of_ble_eq_true rfl) dL_law_743 ⟨Nat.le_of_ble_eq_true rfl, Nat.le_of_ble_eq_true rfl⟩ hcs) (us2 := [uX11 G ox ax rx.2.1, uX9 G (ax 0) an vn, uG G (ax 1) f, uA G 200 (ax 2) tx, uX8 G (ax 9) (fun _ => ok) vsw, uX2 G ok akd, uX8 G (ad 0) (fun _ => ok) rx.2.2.2, uX0 G (ax 10) ad rx.2.2.1, uX6 G (ax 11) (upn asr 0 ok) vse, uX5 G (ax 12) (upn ar 3 t3) vr, uX9 G (ar 0) adr vdr, imU G im0, imU G im1, uX12 G om am rm.2, uA G 63 (am 0) w, uA G 52 (am 22) nx]) rfl (fun H locs h => ?_)
  refine lv_icmp_eq (tgt := 996) C.hx C.hb dL_law_746 (by decide) (fun _ => ?_) (fun zc => absurd heq zc)
  refine W.widen (k := cells + 11) (n := slots + 69) (by omega) (by omega) ?_
  exact hE hI hfd h hl
set_option maxRecDepth 100000 in
set_option maxHeartbeats 4000000 in
theorem lc_rule {p : Program} {l : Launch} {e : Env} {s : State} {m : MethodId} {below : List Frame} {meth : Method} {c : Code} {G : GG} {b L : Nat} {xs : Nat → Int32} {ox om ok : Nat} {ax an akd ad asr ar adr am : Nat → Nat} {N : Nat} {vob : US} {vn : US} {vsw : US} {vds : US} {vd : US} {vse : US} {vr : US} {vdr : US} {vm : US} {tx : Nat → Int32} {w : Nat → Int32} {nx : Nat → Int32} {t3 : Nat} {f : Nat → Option Nat} {im0 : Option (Nat × (Nat → Nat) × US)} {im1 : Option (Nat × (Nat → Nat) × US)} {cells slots : Nat} {Q : State → Prop} {x3 : Int32} (hN : 200000 ≤ N) (C : MC RL code 4 ret G (fun q : Nat => s.heap.size ≤ q) p s m #[Value.ref b] meth c) (hX : va_X b L xs s s.heap) (hbl : b < s.heap.size) (hcs : cells ≤ room_1.cells ∧ slots ≤ room_1.slots) (hcj : cells + 11 ≤ room_1.cells ∧ slots + 69 ≤ room_1.slots) (hi1 : vp_in (x3 + 1) L) (hi2 : vp_in (x3 + 2) L) (hi3 : vp_in (x3 + 3) L) (hi4 : vp_in (x3 + 4) L) (hE : ∀ {vob : US} {vn : US} {vsw : US} {vds : US} {vd : US} {vse : US} {vr : US} {vdr : US} {vm : US} {tx : Nat → Int32} {w : Nat → Int32} {nx : Nat → Int32} {t3 : Nat} {f : Nat → Option Nat} {im0 : Option (Nat × (Nat → Nat) × US)} {im1 : Option (Nat × (Nat → Nat) × US)} {H : Heap} {locs : List Loc} {ls : Array Slot}, Inv vob vn tx (im0.map fun q => q.2.2) (im1.map fun q => q.2.2) vm w → (f 0 = im0.map fun q => q.1) ∧ (f 1 = im1.map fun q => q.1) → HP G (fun q : Nat => s.heap.size ≤ q) s [uX11 G ox ax vob, uX9 G (ax 0) an vn, uG G (ax 1) f, uA G 200 (ax 2) tx, uX8 G (ax 9) (fun _ => ok) vsw, uX2 G ok akd, uX8 G (ad 0) (fun _ => ok) vds, uX0 G (ax 10) ad vd, uX6 G (ax 11) (upn asr 0 ok) vse, uX5 G (ax 12) (upn ar 3 t3) vr, uX9 G (ar 0) adr vdr, imU G im0, imU G im1, uX12 G om am vm, uA G 63 (am 0) w, uA G 52 (am 22) nx] H locs → lv_has ls 4 [(0, .ref b), (1, .ref ox), (2, .ref om), (3, .int x3)] → W p l e room_1 s m #[Value.ref b] below meth c H locs (cells + 11) (slots + 69) Q (F0 m 996 ls [])) (hI : Inv vob vn tx (im0.map fun q => q.2.2) (im1.map fun q => q.2.2) vm w) (hfd : (f 0 = im0.map fun q => q.1) ∧ (f 1 = im1.map fun q => q.1)) {H : Heap} {locs : List Loc} {ls : Array Slot} (h : HP G (fun q : Nat => s.heap.size ≤ q) s [uX11 G ox ax vob, uX9 G (ax 0) an vn, uG G (ax 1) f, uA G 200 (ax 2) tx, uX8 G (ax 9) (fun _ => ok) vsw, uX2 G ok akd, uX8 G (ad 0) (fun _ => ok) vds, uX0 G (ax 10) ad vd, uX6 G (ax 11) (upn asr 0 ok) vse, uX5 G (ax 12) (upn ar 3 t3) vr, uX9 G (ar 0) adr vdr, imU G im0, imU G im1, uX12 G om am vm, uA G 63 (am 0) w, uA G 52 (am 22) nx] H locs) (hl : lv_has ls 4 [(0, .ref b), (1, .ref ox), (2, .ref om), (3, .int x3)]) : W p l e room_1 s m #[Value.ref b] below meth c H locs cells slots Q (F0 m 751 ls []) := by
  refine lv_aload_n C.hx C.hb dL_law_751 rfl (lv_at hl 1 rfl) ?_
  refine lv_aload_n C.hx C.hb dL_law_752 rfl (lv_at hl 0 rfl) ?_
  refine lv_iload_n C.hx C.hb dL_law_753 rfl (lv_at hl 3 rfl) ?_
  refine lv_iconst (v := 1) C.hx C.hb dL_law_754 (by decide) ?_
  refine lv_iadd C.hx C.hb dL_law_755 ?_
  refine va_sld C.hx C.hb hX hbl (Nat.not_le.mpr hbl) h.2.2 hi1 dL_law_756 ?_
  refine lv_aload_n C.hx C.hb dL_law_757 rfl (lv_at hl 0 rfl) ?_
  refine lv_iload_n C.hx C.hb dL_law_758 rfl (lv_at hl 3 rfl) ?_
  refine lv_iconst (v := 2) C.hx C.hb dL_law_759 (by decide) ?_
  refine lv_iadd C.hx C.hb dL_law_760 ?_
  refine va_sld C.hx C.hb hX hbl (Nat.not_le.mpr hbl) h.2.2 hi2 dL_law_761 ?_
  refine lv_aload_n C.hx C.hb dL_law_762 rfl (lv_at hl 0 rfl) ?_
  refine lv_iload_n C.hx C.hb dL_law_763 rfl (lv_at hl 3 rfl) ?_
  refine lv_iconst (v := 3) C.hx C.hb dL_law_764 (by decide) ?_
  refine lv_iadd C.hx C.hb dL_law_765 ?_
  refine va_sld C.hx C.hb hX hbl (Nat.not_le.mpr hbl) h.2.2 hi3 dL_law_766 ?_
  obtain ⟨rx, rm, hfx, hfm, heq, hI⟩ := sim_rule hN hI (xs (x3 + 1).toNatClampNeg) (xs (x3 + 2).toNatClampNeg) (xs (x3 + 3).toNatClampNeg)
  have zmrx := c_X11_rule l G ox ax an (hf := hfx)
  refine g_goI C h zmrx.1 (is := [0, 1]) rfl rfl (g_runV C h (is := [0, 1]) rfl rfl (As := [.int (xs (x3 + 1).toNatClampNeg), .int (xs (x3 + 2).toNatClampNeg), .int (xs (x3 + 3).toNatClampNeg)]) (rest := []) (zmrx.2 _) vf_L_98 0 0 rfl rfl hl.1 rfl rfl (Nat.le_of_ble_eq_true rfl) dL_law_767 ⟨Nat.le_of_ble_eq_true rfl, Nat.le_of_ble_eq_true rfl⟩ hcs) (us2 := [uX11 G ox ax rx.2.1, uX9 G (ax 0) an rx.2.2, uG G (ax 1) f, uA G 200 (ax 2) tx, uX8 G (ax 9) (fun _ => ok) vsw, uX2 G ok akd, uX8 G (ad 0) (fun _ => ok) vds, uX0 G (ax 10) ad vd, uX6 G (ax 11) (upn asr 0 ok) vse, uX5 G (ax 12) (upn ar 3 t3) vr, uX9 G (ar 0) adr vdr, imU G im0, imU G im1, uX12 G om am vm, uA G 63 (am 0) w, uA G 52 (am 22) nx]) rfl (fun H locs h => ?_)
  refine lv_aload_n C.hx C.hb dL_law_770 rfl (lv_at hl 2 rfl) ?_
  refine lv_aload_n C.hx C.hb dL_law_771 rfl (lv_at hl 0 rfl) ?_
  refine lv_iload_n C.hx C.hb dL_law_772 rfl (lv_at hl 3 rfl) ?_
  refine lv_iconst (v := 1) C.hx C.hb dL_law_773 (by decide) ?_
  refine lv_iadd C.hx C.hb dL_law_774 ?_
  refine va_sld C.hx C.hb hX hbl (Nat.not_le.mpr hbl) h.2.2 hi1 dL_law_775 ?_
  refine lv_aload_n C.hx C.hb dL_law_776 rfl (lv_at hl 0 rfl) ?_
  refine lv_iload_n C.hx C.hb dL_law_777 rfl (lv_at hl 3 rfl) ?_
  refine lv_iconst (v := 2) C.hx C.hb dL_law_778 (by decide) ?_
  refine lv_iadd C.hx C.hb dL_law_779 ?_
  refine va_sld C.hx C.hb hX hbl (Nat.not_le.mpr hbl) h.2.2 hi2 dL_law_780 ?_
  refine lv_aload_n C.hx C.hb dL_law_781 rfl (lv_at hl 0 rfl) ?_
  refine lv_iload_n C.hx C.hb dL_law_782 rfl (lv_at hl 3 rfl) ?_
  refine lv_iconst (v := 3) C.hx C.hb dL_law_783 (by decide) ?_
  refine lv_iadd C.hx C.hb dL_law_784 ?_
  refine va_sld C.hx C.hb hX hbl (Nat.not_le.mpr hbl) h.2.2 hi3 dL_law_785 ?_
  have zmrm := c_X12_rule l G om am (hf := hfm)
  refine g_goI C h zmrm.1 (is := [13, 14]) rfl rfl (g_runV C h (is := [13, 14]) rfl rfl (As := [.int (xs (x3 + 1).toNatClampNeg), .int (xs (x3 + 2).toNatClampNeg), .int (xs (x3 + 3).toNatClampNeg)]) (rest := [.int rx.1]) (zmrm.2 _) vf_L_101 13 0 rfl rfl hl.1 rfl rfl (Nat.le_of_ble_eq_true rfl) dL_law_786 ⟨Nat.le_of_ble_eq_true rfl, Nat.le_of_ble_eq_true rfl⟩ hcs) (us2 := [uX11 G ox ax rx.2.1, uX9 G (ax 0) an rx.2.2, uG G (ax 1) f, uA G 200 (ax 2) tx, uX8 G (ax 9) (fun _ => ok) vsw, uX2 G ok akd, uX8 G (ad 0) (fun _ => ok) vds, uX0 G (ax 10) ad vd, uX6 G (ax 11) (upn asr 0 ok) vse, uX5 G (ax 12) (upn ar 3 t3) vr, uX9 G (ar 0) adr vdr, imU G im0, imU G im1, uX12 G om am rm.2.1, uA G 63 (am 0) rm.2.2, uA G 52 (am 22) nx]) rfl (fun H locs h => ?_)
  refine lv_icmp_eq (tgt := 996) C.hx C.hb dL_law_789 (by decide) (fun _ => ?_) (fun zc => absurd heq zc)
  refine W.widen (k := cells + 11) (n := slots + 69) (by omega) (by omega) ?_
  exact hE hI hfd h hl
set_option maxRecDepth 100000 in
set_option maxHeartbeats 4000000 in
theorem lc_free {p : Program} {l : Launch} {e : Env} {s : State} {m : MethodId} {below : List Frame} {meth : Method} {c : Code} {G : GG} {b L : Nat} {xs : Nat → Int32} {ox om ok : Nat} {ax an akd ad asr ar adr am : Nat → Nat} {N : Nat} {vob : US} {vn : US} {vsw : US} {vds : US} {vd : US} {vse : US} {vr : US} {vdr : US} {vm : US} {tx : Nat → Int32} {w : Nat → Int32} {nx : Nat → Int32} {t3 : Nat} {f : Nat → Option Nat} {im0 : Option (Nat × (Nat → Nat) × US)} {im1 : Option (Nat × (Nat → Nat) × US)} {cells slots : Nat} {Q : State → Prop} {x3 : Int32} (hN : 200000 ≤ N) (C : MC RL code 4 ret G (fun q : Nat => s.heap.size ≤ q) p s m #[Value.ref b] meth c) (hX : va_X b L xs s s.heap) (hbl : b < s.heap.size) (hcs : cells ≤ room_1.cells ∧ slots ≤ room_1.slots) (hcj : cells + 11 ≤ room_1.cells ∧ slots + 69 ≤ room_1.slots) (hi1 : vp_in (x3 + 1) L) (hi2 : vp_in (x3 + 2) L) (hi3 : vp_in (x3 + 3) L) (hi4 : vp_in (x3 + 4) L) (hE : ∀ {vob : US} {vn : US} {vsw : US} {vds : US} {vd : US} {vse : US} {vr : US} {vdr : US} {vm : US} {tx : Nat → Int32} {w : Nat → Int32} {nx : Nat → Int32} {t3 : Nat} {f : Nat → Option Nat} {im0 : Option (Nat × (Nat → Nat) × US)} {im1 : Option (Nat × (Nat → Nat) × US)} {H : Heap} {locs : List Loc} {ls : Array Slot}, Inv vob vn tx (im0.map fun q => q.2.2) (im1.map fun q => q.2.2) vm w → (f 0 = im0.map fun q => q.1) ∧ (f 1 = im1.map fun q => q.1) → HP G (fun q : Nat => s.heap.size ≤ q) s [uX11 G ox ax vob, uX9 G (ax 0) an vn, uG G (ax 1) f, uA G 200 (ax 2) tx, uX8 G (ax 9) (fun _ => ok) vsw, uX2 G ok akd, uX8 G (ad 0) (fun _ => ok) vds, uX0 G (ax 10) ad vd, uX6 G (ax 11) (upn asr 0 ok) vse, uX5 G (ax 12) (upn ar 3 t3) vr, uX9 G (ar 0) adr vdr, imU G im0, imU G im1, uX12 G om am vm, uA G 63 (am 0) w, uA G 52 (am 22) nx] H locs → lv_has ls 4 [(0, .ref b), (1, .ref ox), (2, .ref om), (3, .int x3)] → W p l e room_1 s m #[Value.ref b] below meth c H locs (cells + 11) (slots + 69) Q (F0 m 996 ls [])) (hI : Inv vob vn tx (im0.map fun q => q.2.2) (im1.map fun q => q.2.2) vm w) (hfd : (f 0 = im0.map fun q => q.1) ∧ (f 1 = im1.map fun q => q.1)) {H : Heap} {locs : List Loc} {ls : Array Slot} (h : HP G (fun q : Nat => s.heap.size ≤ q) s [uX11 G ox ax vob, uX9 G (ax 0) an vn, uG G (ax 1) f, uA G 200 (ax 2) tx, uX8 G (ax 9) (fun _ => ok) vsw, uX2 G ok akd, uX8 G (ad 0) (fun _ => ok) vds, uX0 G (ax 10) ad vd, uX6 G (ax 11) (upn asr 0 ok) vse, uX5 G (ax 12) (upn ar 3 t3) vr, uX9 G (ar 0) adr vdr, imU G im0, imU G im1, uX12 G om am vm, uA G 63 (am 0) w, uA G 52 (am 22) nx] H locs) (hl : lv_has ls 4 [(0, .ref b), (1, .ref ox), (2, .ref om), (3, .int x3)]) : W p l e room_1 s m #[Value.ref b] below meth c H locs cells slots Q (F0 m 794 ls []) := by
  refine lv_aload_n C.hx C.hb dL_law_794 rfl (lv_at hl 1 rfl) ?_
  obtain ⟨rx, rm, hfx, hfm, heq, hI⟩ := sim_free hN hI 
  have zmrx := c_X11_free l G ox ax an (hf := hfx)
  refine g_goI C h zmrx.1 (is := [0, 1]) rfl rfl (g_runV C h (is := [0, 1]) rfl rfl (As := []) (rest := []) (zmrx.2 _) vf_L_102 0 0 rfl rfl hl.1 rfl rfl (Nat.le_of_ble_eq_true rfl) dL_law_795 ⟨Nat.le_of_ble_eq_true rfl, Nat.le_of_ble_eq_true rfl⟩ hcs) (us2 := [uX11 G ox ax vob, uX9 G (ax 0) an rx.2, uG G (ax 1) f, uA G 200 (ax 2) tx, uX8 G (ax 9) (fun _ => ok) vsw, uX2 G ok akd, uX8 G (ad 0) (fun _ => ok) vds, uX0 G (ax 10) ad vd, uX6 G (ax 11) (upn asr 0 ok) vse, uX5 G (ax 12) (upn ar 3 t3) vr, uX9 G (ar 0) adr vdr, imU G im0, imU G im1, uX12 G om am vm, uA G 63 (am 0) w, uA G 52 (am 22) nx]) rfl (fun H locs h => ?_)
  refine lv_aload_n C.hx C.hb dL_law_798 rfl (lv_at hl 2 rfl) ?_
  have zmrm := c_X12_free l G om am (hf := hfm)
  refine g_goI C h zmrm.1 (is := [13, 14]) rfl rfl (g_runV C h (is := [13, 14]) rfl rfl (As := []) (rest := [.int rx.1]) (zmrm.2 _) vf_L_105 13 0 rfl rfl hl.1 rfl rfl (Nat.le_of_ble_eq_true rfl) dL_law_799 ⟨Nat.le_of_ble_eq_true rfl, Nat.le_of_ble_eq_true rfl⟩ hcs) (us2 := [uX11 G ox ax vob, uX9 G (ax 0) an rx.2, uG G (ax 1) f, uA G 200 (ax 2) tx, uX8 G (ax 9) (fun _ => ok) vsw, uX2 G ok akd, uX8 G (ad 0) (fun _ => ok) vds, uX0 G (ax 10) ad vd, uX6 G (ax 11) (upn asr 0 ok) vse, uX5 G (ax 12) (upn ar 3 t3) vr, uX9 G (ar 0) adr vdr, imU G im0, imU G im1, uX12 G om am vm, uA G 63 (am 0) rm.2, uA G 52 (am 22) nx]) rfl (fun H locs h => ?_)
  refine lv_icmp_eq (tgt := 996) C.hx C.hb dL_law_802 (by decide) (fun _ => ?_) (fun zc => absurd heq zc)
  refine W.widen (k := cells + 11) (n := slots + 69) (by omega) (by omega) ?_
  exact hE hI hfd h hl
set_option maxRecDepth 100000 in
set_option maxHeartbeats 4000000 in
theorem lc_slack {p : Program} {l : Launch} {e : Env} {s : State} {m : MethodId} {below : List Frame} {meth : Method} {c : Code} {G : GG} {b L : Nat} {xs : Nat → Int32} {ox om ok : Nat} {ax an akd ad asr ar adr am : Nat → Nat} {N : Nat} {vob : US} {vn : US} {vsw : US} {vds : US} {vd : US} {vse : US} {vr : US} {vdr : US} {vm : US} {tx : Nat → Int32} {w : Nat → Int32} {nx : Nat → Int32} {t3 : Nat} {f : Nat → Option Nat} {im0 : Option (Nat × (Nat → Nat) × US)} {im1 : Option (Nat × (Nat → Nat) × US)} {cells slots : Nat} {Q : State → Prop} {x3 : Int32} (hN : 200000 ≤ N) (C : MC RL code 4 ret G (fun q : Nat => s.heap.size ≤ q) p s m #[Value.ref b] meth c) (hX : va_X b L xs s s.heap) (hbl : b < s.heap.size) (hcs : cells ≤ room_1.cells ∧ slots ≤ room_1.slots) (hcj : cells + 11 ≤ room_1.cells ∧ slots + 69 ≤ room_1.slots) (hi1 : vp_in (x3 + 1) L) (hi2 : vp_in (x3 + 2) L) (hi3 : vp_in (x3 + 3) L) (hi4 : vp_in (x3 + 4) L) (hE : ∀ {vob : US} {vn : US} {vsw : US} {vds : US} {vd : US} {vse : US} {vr : US} {vdr : US} {vm : US} {tx : Nat → Int32} {w : Nat → Int32} {nx : Nat → Int32} {t3 : Nat} {f : Nat → Option Nat} {im0 : Option (Nat × (Nat → Nat) × US)} {im1 : Option (Nat × (Nat → Nat) × US)} {H : Heap} {locs : List Loc} {ls : Array Slot}, Inv vob vn tx (im0.map fun q => q.2.2) (im1.map fun q => q.2.2) vm w → (f 0 = im0.map fun q => q.1) ∧ (f 1 = im1.map fun q => q.1) → HP G (fun q : Nat => s.heap.size ≤ q) s [uX11 G ox ax vob, uX9 G (ax 0) an vn, uG G (ax 1) f, uA G 200 (ax 2) tx, uX8 G (ax 9) (fun _ => ok) vsw, uX2 G ok akd, uX8 G (ad 0) (fun _ => ok) vds, uX0 G (ax 10) ad vd, uX6 G (ax 11) (upn asr 0 ok) vse, uX5 G (ax 12) (upn ar 3 t3) vr, uX9 G (ar 0) adr vdr, imU G im0, imU G im1, uX12 G om am vm, uA G 63 (am 0) w, uA G 52 (am 22) nx] H locs → lv_has ls 4 [(0, .ref b), (1, .ref ox), (2, .ref om), (3, .int x3)] → W p l e room_1 s m #[Value.ref b] below meth c H locs (cells + 11) (slots + 69) Q (F0 m 996 ls [])) (hI : Inv vob vn tx (im0.map fun q => q.2.2) (im1.map fun q => q.2.2) vm w) (hfd : (f 0 = im0.map fun q => q.1) ∧ (f 1 = im1.map fun q => q.1)) {H : Heap} {locs : List Loc} {ls : Array Slot} (h : HP G (fun q : Nat => s.heap.size ≤ q) s [uX11 G ox ax vob, uX9 G (ax 0) an vn, uG G (ax 1) f, uA G 200 (ax 2) tx, uX8 G (ax 9) (fun _ => ok) vsw, uX2 G ok akd, uX8 G (ad 0) (fun _ => ok) vds, uX0 G (ax 10) ad vd, uX6 G (ax 11) (upn asr 0 ok) vse, uX5 G (ax 12) (upn ar 3 t3) vr, uX9 G (ar 0) adr vdr, imU G im0, imU G im1, uX12 G om am vm, uA G 63 (am 0) w, uA G 52 (am 22) nx] H locs) (hl : lv_has ls 4 [(0, .ref b), (1, .ref ox), (2, .ref om), (3, .int x3)]) : W p l e room_1 s m #[Value.ref b] below meth c H locs cells slots Q (F0 m 807 ls []) := by
  refine lv_aload_n C.hx C.hb dL_law_807 rfl (lv_at hl 1 rfl) ?_
  refine lv_aload_n C.hx C.hb dL_law_808 rfl (lv_at hl 0 rfl) ?_
  refine lv_iload_n C.hx C.hb dL_law_809 rfl (lv_at hl 3 rfl) ?_
  refine lv_iconst (v := 1) C.hx C.hb dL_law_810 (by decide) ?_
  refine lv_iadd C.hx C.hb dL_law_811 ?_
  refine va_sld C.hx C.hb hX hbl (Nat.not_le.mpr hbl) h.2.2 hi1 dL_law_812 ?_
  obtain ⟨rx, rm, hfx, hfm, heq, hI⟩ := sim_slack hN hI vse (xs (x3 + 1).toNatClampNeg)
  have zmrx := c_X11_slack l G ox ax an (upn asr 0 ok) akd N (hf := hfx)
  refine g_goI C h zmrx.1 (is := [0, 1, 8, 5]) rfl rfl (g_runV C h (is := [0, 1, 8, 5]) rfl rfl (As := [.int (xs (x3 + 1).toNatClampNeg)]) (rest := []) (zmrx.2 _) vf_L_106 0 0 rfl rfl hl.1 rfl rfl (Nat.le_of_ble_eq_true rfl) dL_law_813 ⟨Nat.le_of_ble_eq_true rfl, Nat.le_of_ble_eq_true rfl⟩ hcs) (us2 := [uX11 G ox ax rx.2.1, uX9 G (ax 0) an vn, uG G (ax 1) f, uA G 200 (ax 2) tx, uX8 G (ax 9) (fun _ => ok) vsw, uX2 G ok akd, uX8 G (ad 0) (fun _ => ok) vds, uX0 G (ax 10) ad vd, uX6 G (ax 11) (upn asr 0 ok) rx.2.2, uX5 G (ax 12) (upn ar 3 t3) vr, uX9 G (ar 0) adr vdr, imU G im0, imU G im1, uX12 G om am vm, uA G 63 (am 0) w, uA G 52 (am 22) nx]) rfl (fun H locs h => ?_)
  refine lv_aload_n C.hx C.hb dL_law_816 rfl (lv_at hl 2 rfl) ?_
  refine lv_aload_n C.hx C.hb dL_law_817 rfl (lv_at hl 0 rfl) ?_
  refine lv_iload_n C.hx C.hb dL_law_818 rfl (lv_at hl 3 rfl) ?_
  refine lv_iconst (v := 1) C.hx C.hb dL_law_819 (by decide) ?_
  refine lv_iadd C.hx C.hb dL_law_820 ?_
  refine va_sld C.hx C.hb hX hbl (Nat.not_le.mpr hbl) h.2.2 hi1 dL_law_821 ?_
  have zmrm := c_X12_slack l G om am N (hf := hfm)
  refine g_goI C h zmrm.1 (is := [13, 14]) rfl rfl (g_runV C h (is := [13, 14]) rfl rfl (As := [.int (xs (x3 + 1).toNatClampNeg)]) (rest := [.int rx.1]) (zmrm.2 _) vf_L_109 13 0 rfl rfl hl.1 rfl rfl (Nat.le_of_ble_eq_true rfl) dL_law_822 ⟨Nat.le_of_ble_eq_true rfl, Nat.le_of_ble_eq_true rfl⟩ hcs) (us2 := [uX11 G ox ax rx.2.1, uX9 G (ax 0) an vn, uG G (ax 1) f, uA G 200 (ax 2) tx, uX8 G (ax 9) (fun _ => ok) vsw, uX2 G ok akd, uX8 G (ad 0) (fun _ => ok) vds, uX0 G (ax 10) ad vd, uX6 G (ax 11) (upn asr 0 ok) rx.2.2, uX5 G (ax 12) (upn ar 3 t3) vr, uX9 G (ar 0) adr vdr, imU G im0, imU G im1, uX12 G om am rm.2, uA G 63 (am 0) w, uA G 52 (am 22) nx]) rfl (fun H locs h => ?_)
  refine lv_icmp_eq (tgt := 996) C.hx C.hb dL_law_825 (by decide) (fun _ => ?_) (fun zc => absurd heq zc)
  refine W.widen (k := cells + 11) (n := slots + 69) (by omega) (by omega) ?_
  exact hE hI hfd h hl
set_option maxRecDepth 100000 in
set_option maxHeartbeats 4000000 in
theorem lc_giveUp {p : Program} {l : Launch} {e : Env} {s : State} {m : MethodId} {below : List Frame} {meth : Method} {c : Code} {G : GG} {b L : Nat} {xs : Nat → Int32} {ox om ok : Nat} {ax an akd ad asr ar adr am : Nat → Nat} {N : Nat} {vob : US} {vn : US} {vsw : US} {vds : US} {vd : US} {vse : US} {vr : US} {vdr : US} {vm : US} {tx : Nat → Int32} {w : Nat → Int32} {nx : Nat → Int32} {t3 : Nat} {f : Nat → Option Nat} {im0 : Option (Nat × (Nat → Nat) × US)} {im1 : Option (Nat × (Nat → Nat) × US)} {cells slots : Nat} {Q : State → Prop} {x3 : Int32} (hN : 200000 ≤ N) (C : MC RL code 4 ret G (fun q : Nat => s.heap.size ≤ q) p s m #[Value.ref b] meth c) (hX : va_X b L xs s s.heap) (hbl : b < s.heap.size) (hcs : cells ≤ room_1.cells ∧ slots ≤ room_1.slots) (hcj : cells + 11 ≤ room_1.cells ∧ slots + 69 ≤ room_1.slots) (hi1 : vp_in (x3 + 1) L) (hi2 : vp_in (x3 + 2) L) (hi3 : vp_in (x3 + 3) L) (hi4 : vp_in (x3 + 4) L) (hE : ∀ {vob : US} {vn : US} {vsw : US} {vds : US} {vd : US} {vse : US} {vr : US} {vdr : US} {vm : US} {tx : Nat → Int32} {w : Nat → Int32} {nx : Nat → Int32} {t3 : Nat} {f : Nat → Option Nat} {im0 : Option (Nat × (Nat → Nat) × US)} {im1 : Option (Nat × (Nat → Nat) × US)} {H : Heap} {locs : List Loc} {ls : Array Slot}, Inv vob vn tx (im0.map fun q => q.2.2) (im1.map fun q => q.2.2) vm w → (f 0 = im0.map fun q => q.1) ∧ (f 1 = im1.map fun q => q.1) → HP G (fun q : Nat => s.heap.size ≤ q) s [uX11 G ox ax vob, uX9 G (ax 0) an vn, uG G (ax 1) f, uA G 200 (ax 2) tx, uX8 G (ax 9) (fun _ => ok) vsw, uX2 G ok akd, uX8 G (ad 0) (fun _ => ok) vds, uX0 G (ax 10) ad vd, uX6 G (ax 11) (upn asr 0 ok) vse, uX5 G (ax 12) (upn ar 3 t3) vr, uX9 G (ar 0) adr vdr, imU G im0, imU G im1, uX12 G om am vm, uA G 63 (am 0) w, uA G 52 (am 22) nx] H locs → lv_has ls 4 [(0, .ref b), (1, .ref ox), (2, .ref om), (3, .int x3)] → W p l e room_1 s m #[Value.ref b] below meth c H locs (cells + 11) (slots + 69) Q (F0 m 996 ls [])) (hI : Inv vob vn tx (im0.map fun q => q.2.2) (im1.map fun q => q.2.2) vm w) (hfd : (f 0 = im0.map fun q => q.1) ∧ (f 1 = im1.map fun q => q.1)) {H : Heap} {locs : List Loc} {ls : Array Slot} (h : HP G (fun q : Nat => s.heap.size ≤ q) s [uX11 G ox ax vob, uX9 G (ax 0) an vn, uG G (ax 1) f, uA G 200 (ax 2) tx, uX8 G (ax 9) (fun _ => ok) vsw, uX2 G ok akd, uX8 G (ad 0) (fun _ => ok) vds, uX0 G (ax 10) ad vd, uX6 G (ax 11) (upn asr 0 ok) vse, uX5 G (ax 12) (upn ar 3 t3) vr, uX9 G (ar 0) adr vdr, imU G im0, imU G im1, uX12 G om am vm, uA G 63 (am 0) w, uA G 52 (am 22) nx] H locs) (hl : lv_has ls 4 [(0, .ref b), (1, .ref ox), (2, .ref om), (3, .int x3)]) : W p l e room_1 s m #[Value.ref b] below meth c H locs cells slots Q (F0 m 830 ls []) := by
  refine lv_aload_n C.hx C.hb dL_law_830 rfl (lv_at hl 1 rfl) ?_
  obtain ⟨rx, rm, hfx, hfm, heq, hI⟩ := sim_giveUp hN hI vse
  have zmrx := c_X11_giveUp l G ox ax an (upn asr 0 ok) akd N (hf := hfx)
  refine g_goI C h zmrx.1 (is := [0, 1, 8, 5]) rfl rfl (g_runV C h (is := [0, 1, 8, 5]) rfl rfl (As := []) (rest := []) (zmrx.2 _) vf_L_110 0 0 rfl rfl hl.1 rfl rfl (Nat.le_of_ble_eq_true rfl) dL_law_831 ⟨Nat.le_of_ble_eq_true rfl, Nat.le_of_ble_eq_true rfl⟩ hcs) (us2 := [uX11 G ox ax vob, uX9 G (ax 0) an vn, uG G (ax 1) f, uA G 200 (ax 2) tx, uX8 G (ax 9) (fun _ => ok) vsw, uX2 G ok akd, uX8 G (ad 0) (fun _ => ok) vds, uX0 G (ax 10) ad vd, uX6 G (ax 11) (upn asr 0 ok) rx.2, uX5 G (ax 12) (upn ar 3 t3) vr, uX9 G (ar 0) adr vdr, imU G im0, imU G im1, uX12 G om am vm, uA G 63 (am 0) w, uA G 52 (am 22) nx]) rfl (fun H locs h => ?_)
  refine lv_aload_n C.hx C.hb dL_law_834 rfl (lv_at hl 2 rfl) ?_
  have zmrm := c_X12_giveUp l G om am N (hf := hfm)
  refine g_goI C h zmrm.1 (is := [13, 14]) rfl rfl (g_runV C h (is := [13, 14]) rfl rfl (As := []) (rest := [.int rx.1]) (zmrm.2 _) vf_L_113 13 0 rfl rfl hl.1 rfl rfl (Nat.le_of_ble_eq_true rfl) dL_law_835 ⟨Nat.le_of_ble_eq_true rfl, Nat.le_of_ble_eq_true rfl⟩ hcs) (us2 := [uX11 G ox ax vob, uX9 G (ax 0) an vn, uG G (ax 1) f, uA G 200 (ax 2) tx, uX8 G (ax 9) (fun _ => ok) vsw, uX2 G ok akd, uX8 G (ad 0) (fun _ => ok) vds, uX0 G (ax 10) ad vd, uX6 G (ax 11) (upn asr 0 ok) rx.2, uX5 G (ax 12) (upn ar 3 t3) vr, uX9 G (ar 0) adr vdr, imU G im0, imU G im1, uX12 G om am rm.2, uA G 63 (am 0) w, uA G 52 (am 22) nx]) rfl (fun H locs h => ?_)
  refine lv_icmp_eq (tgt := 996) C.hx C.hb dL_law_838 (by decide) (fun _ => ?_) (fun zc => absurd heq zc)
  refine W.widen (k := cells + 11) (n := slots + 69) (by omega) (by omega) ?_
  exact hE hI hfd h hl
set_option maxRecDepth 100000 in
set_option maxHeartbeats 4000000 in
theorem lc_share {p : Program} {l : Launch} {e : Env} {s : State} {m : MethodId} {below : List Frame} {meth : Method} {c : Code} {G : GG} {b L : Nat} {xs : Nat → Int32} {ox om ok : Nat} {ax an akd ad asr ar adr am : Nat → Nat} {N : Nat} {vob : US} {vn : US} {vsw : US} {vds : US} {vd : US} {vse : US} {vr : US} {vdr : US} {vm : US} {tx : Nat → Int32} {w : Nat → Int32} {nx : Nat → Int32} {t3 : Nat} {f : Nat → Option Nat} {im0 : Option (Nat × (Nat → Nat) × US)} {im1 : Option (Nat × (Nat → Nat) × US)} {cells slots : Nat} {Q : State → Prop} {x3 : Int32} (hN : 200000 ≤ N) (C : MC RL code 4 ret G (fun q : Nat => s.heap.size ≤ q) p s m #[Value.ref b] meth c) (hX : va_X b L xs s s.heap) (hbl : b < s.heap.size) (hcs : cells ≤ room_1.cells ∧ slots ≤ room_1.slots) (hcj : cells + 11 ≤ room_1.cells ∧ slots + 69 ≤ room_1.slots) (hi1 : vp_in (x3 + 1) L) (hi2 : vp_in (x3 + 2) L) (hi3 : vp_in (x3 + 3) L) (hi4 : vp_in (x3 + 4) L) (hE : ∀ {vob : US} {vn : US} {vsw : US} {vds : US} {vd : US} {vse : US} {vr : US} {vdr : US} {vm : US} {tx : Nat → Int32} {w : Nat → Int32} {nx : Nat → Int32} {t3 : Nat} {f : Nat → Option Nat} {im0 : Option (Nat × (Nat → Nat) × US)} {im1 : Option (Nat × (Nat → Nat) × US)} {H : Heap} {locs : List Loc} {ls : Array Slot}, Inv vob vn tx (im0.map fun q => q.2.2) (im1.map fun q => q.2.2) vm w → (f 0 = im0.map fun q => q.1) ∧ (f 1 = im1.map fun q => q.1) → HP G (fun q : Nat => s.heap.size ≤ q) s [uX11 G ox ax vob, uX9 G (ax 0) an vn, uG G (ax 1) f, uA G 200 (ax 2) tx, uX8 G (ax 9) (fun _ => ok) vsw, uX2 G ok akd, uX8 G (ad 0) (fun _ => ok) vds, uX0 G (ax 10) ad vd, uX6 G (ax 11) (upn asr 0 ok) vse, uX5 G (ax 12) (upn ar 3 t3) vr, uX9 G (ar 0) adr vdr, imU G im0, imU G im1, uX12 G om am vm, uA G 63 (am 0) w, uA G 52 (am 22) nx] H locs → lv_has ls 4 [(0, .ref b), (1, .ref ox), (2, .ref om), (3, .int x3)] → W p l e room_1 s m #[Value.ref b] below meth c H locs (cells + 11) (slots + 69) Q (F0 m 996 ls [])) (hI : Inv vob vn tx (im0.map fun q => q.2.2) (im1.map fun q => q.2.2) vm w) (hfd : (f 0 = im0.map fun q => q.1) ∧ (f 1 = im1.map fun q => q.1)) {H : Heap} {locs : List Loc} {ls : Array Slot} (h : HP G (fun q : Nat => s.heap.size ≤ q) s [uX11 G ox ax vob, uX9 G (ax 0) an vn, uG G (ax 1) f, uA G 200 (ax 2) tx, uX8 G (ax 9) (fun _ => ok) vsw, uX2 G ok akd, uX8 G (ad 0) (fun _ => ok) vds, uX0 G (ax 10) ad vd, uX6 G (ax 11) (upn asr 0 ok) vse, uX5 G (ax 12) (upn ar 3 t3) vr, uX9 G (ar 0) adr vdr, imU G im0, imU G im1, uX12 G om am vm, uA G 63 (am 0) w, uA G 52 (am 22) nx] H locs) (hl : lv_has ls 4 [(0, .ref b), (1, .ref ox), (2, .ref om), (3, .int x3)]) : W p l e room_1 s m #[Value.ref b] below meth c H locs cells slots Q (F0 m 843 ls []) := by
  refine lv_aload_n C.hx C.hb dL_law_843 rfl (lv_at hl 1 rfl) ?_
  refine lv_aload_n C.hx C.hb dL_law_844 rfl (lv_at hl 0 rfl) ?_
  refine lv_iload_n C.hx C.hb dL_law_845 rfl (lv_at hl 3 rfl) ?_
  refine lv_iconst (v := 1) C.hx C.hb dL_law_846 (by decide) ?_
  refine lv_iadd C.hx C.hb dL_law_847 ?_
  refine va_sld C.hx C.hb hX hbl (Nat.not_le.mpr hbl) h.2.2 hi1 dL_law_848 ?_
  obtain ⟨rx, rm, hfx, hfm, heq, hI⟩ := sim_share hN hI vd vds (xs (x3 + 1).toNatClampNeg)
  have zmrx := c_X11_share l G ox ax ad (fun _ => ok) akd an N (hf := hfx)
  refine g_goI C h zmrx.1 (is := [0, 7, 6, 5, 1]) rfl rfl (g_runV C h (is := [0, 7, 6, 5, 1]) rfl rfl (As := [.int (xs (x3 + 1).toNatClampNeg)]) (rest := []) (zmrx.2 _) vf_L_114 0 0 rfl rfl hl.1 rfl rfl (Nat.le_of_ble_eq_true rfl) dL_law_849 ⟨Nat.le_of_ble_eq_true rfl, Nat.le_of_ble_eq_true rfl⟩ hcs) (us2 := [uX11 G ox ax rx.2.1, uX9 G (ax 0) an vn, uG G (ax 1) f, uA G 200 (ax 2) tx, uX8 G (ax 9) (fun _ => ok) vsw, uX2 G ok akd, uX8 G (ad 0) (fun _ => ok) rx.2.2.2, uX0 G (ax 10) ad rx.2.2.1, uX6 G (ax 11) (upn asr 0 ok) vse, uX5 G (ax 12) (upn ar 3 t3) vr, uX9 G (ar 0) adr vdr, imU G im0, imU G im1, uX12 G om am vm, uA G 63 (am 0) w, uA G 52 (am 22) nx]) rfl (fun H locs h => ?_)
  refine lv_aload_n C.hx C.hb dL_law_852 rfl (lv_at hl 2 rfl) ?_
  refine lv_aload_n C.hx C.hb dL_law_853 rfl (lv_at hl 0 rfl) ?_
  refine lv_iload_n C.hx C.hb dL_law_854 rfl (lv_at hl 3 rfl) ?_
  refine lv_iconst (v := 1) C.hx C.hb dL_law_855 (by decide) ?_
  refine lv_iadd C.hx C.hb dL_law_856 ?_
  refine va_sld C.hx C.hb hX hbl (Nat.not_le.mpr hbl) h.2.2 hi1 dL_law_857 ?_
  have zmrm := c_X12_share l G om am N (hf := hfm)
  refine g_goI C h zmrm.1 (is := [13, 14]) rfl rfl (g_runV C h (is := [13, 14]) rfl rfl (As := [.int (xs (x3 + 1).toNatClampNeg)]) (rest := [.int rx.1]) (zmrm.2 _) vf_L_117 13 0 rfl rfl hl.1 rfl rfl (Nat.le_of_ble_eq_true rfl) dL_law_858 ⟨Nat.le_of_ble_eq_true rfl, Nat.le_of_ble_eq_true rfl⟩ hcs) (us2 := [uX11 G ox ax rx.2.1, uX9 G (ax 0) an vn, uG G (ax 1) f, uA G 200 (ax 2) tx, uX8 G (ax 9) (fun _ => ok) vsw, uX2 G ok akd, uX8 G (ad 0) (fun _ => ok) rx.2.2.2, uX0 G (ax 10) ad rx.2.2.1, uX6 G (ax 11) (upn asr 0 ok) vse, uX5 G (ax 12) (upn ar 3 t3) vr, uX9 G (ar 0) adr vdr, imU G im0, imU G im1, uX12 G om am rm.2, uA G 63 (am 0) w, uA G 52 (am 22) nx]) rfl (fun H locs h => ?_)
  refine lv_icmp_eq (tgt := 996) C.hx C.hb dL_law_861 (by decide) (fun _ => ?_) (fun zc => absurd heq zc)
  refine W.widen (k := cells + 11) (n := slots + 69) (by omega) (by omega) ?_
  exact hE hI hfd h hl
set_option maxRecDepth 100000 in
set_option maxHeartbeats 4000000 in
theorem lc_part {p : Program} {l : Launch} {e : Env} {s : State} {m : MethodId} {below : List Frame} {meth : Method} {c : Code} {G : GG} {b L : Nat} {xs : Nat → Int32} {ox om ok : Nat} {ax an akd ad asr ar adr am : Nat → Nat} {N : Nat} {vob : US} {vn : US} {vsw : US} {vds : US} {vd : US} {vse : US} {vr : US} {vdr : US} {vm : US} {tx : Nat → Int32} {w : Nat → Int32} {nx : Nat → Int32} {t3 : Nat} {f : Nat → Option Nat} {im0 : Option (Nat × (Nat → Nat) × US)} {im1 : Option (Nat × (Nat → Nat) × US)} {cells slots : Nat} {Q : State → Prop} {x3 : Int32} (hN : 200000 ≤ N) (C : MC RL code 4 ret G (fun q : Nat => s.heap.size ≤ q) p s m #[Value.ref b] meth c) (hX : va_X b L xs s s.heap) (hbl : b < s.heap.size) (hcs : cells ≤ room_1.cells ∧ slots ≤ room_1.slots) (hcj : cells + 11 ≤ room_1.cells ∧ slots + 69 ≤ room_1.slots) (hi1 : vp_in (x3 + 1) L) (hi2 : vp_in (x3 + 2) L) (hi3 : vp_in (x3 + 3) L) (hi4 : vp_in (x3 + 4) L) (hE : ∀ {vob : US} {vn : US} {vsw : US} {vds : US} {vd : US} {vse : US} {vr : US} {vdr : US} {vm : US} {tx : Nat → Int32} {w : Nat → Int32} {nx : Nat → Int32} {t3 : Nat} {f : Nat → Option Nat} {im0 : Option (Nat × (Nat → Nat) × US)} {im1 : Option (Nat × (Nat → Nat) × US)} {H : Heap} {locs : List Loc} {ls : Array Slot}, Inv vob vn tx (im0.map fun q => q.2.2) (im1.map fun q => q.2.2) vm w → (f 0 = im0.map fun q => q.1) ∧ (f 1 = im1.map fun q => q.1) → HP G (fun q : Nat => s.heap.size ≤ q) s [uX11 G ox ax vob, uX9 G (ax 0) an vn, uG G (ax 1) f, uA G 200 (ax 2) tx, uX8 G (ax 9) (fun _ => ok) vsw, uX2 G ok akd, uX8 G (ad 0) (fun _ => ok) vds, uX0 G (ax 10) ad vd, uX6 G (ax 11) (upn asr 0 ok) vse, uX5 G (ax 12) (upn ar 3 t3) vr, uX9 G (ar 0) adr vdr, imU G im0, imU G im1, uX12 G om am vm, uA G 63 (am 0) w, uA G 52 (am 22) nx] H locs → lv_has ls 4 [(0, .ref b), (1, .ref ox), (2, .ref om), (3, .int x3)] → W p l e room_1 s m #[Value.ref b] below meth c H locs (cells + 11) (slots + 69) Q (F0 m 996 ls [])) (hI : Inv vob vn tx (im0.map fun q => q.2.2) (im1.map fun q => q.2.2) vm w) (hfd : (f 0 = im0.map fun q => q.1) ∧ (f 1 = im1.map fun q => q.1)) {H : Heap} {locs : List Loc} {ls : Array Slot} (h : HP G (fun q : Nat => s.heap.size ≤ q) s [uX11 G ox ax vob, uX9 G (ax 0) an vn, uG G (ax 1) f, uA G 200 (ax 2) tx, uX8 G (ax 9) (fun _ => ok) vsw, uX2 G ok akd, uX8 G (ad 0) (fun _ => ok) vds, uX0 G (ax 10) ad vd, uX6 G (ax 11) (upn asr 0 ok) vse, uX5 G (ax 12) (upn ar 3 t3) vr, uX9 G (ar 0) adr vdr, imU G im0, imU G im1, uX12 G om am vm, uA G 63 (am 0) w, uA G 52 (am 22) nx] H locs) (hl : lv_has ls 4 [(0, .ref b), (1, .ref ox), (2, .ref om), (3, .int x3)]) : W p l e room_1 s m #[Value.ref b] below meth c H locs cells slots Q (F0 m 866 ls []) := by
  refine lv_aload_n C.hx C.hb dL_law_866 rfl (lv_at hl 1 rfl) ?_
  refine lv_aload_n C.hx C.hb dL_law_867 rfl (lv_at hl 0 rfl) ?_
  refine lv_iload_n C.hx C.hb dL_law_868 rfl (lv_at hl 3 rfl) ?_
  refine lv_iconst (v := 1) C.hx C.hb dL_law_869 (by decide) ?_
  refine lv_iadd C.hx C.hb dL_law_870 ?_
  refine va_sld C.hx C.hb hX hbl (Nat.not_le.mpr hbl) h.2.2 hi1 dL_law_871 ?_
  obtain ⟨rx, rm, hfx, hfm, heq, hI⟩ := sim_part hN hI (xs (x3 + 1).toNatClampNeg)
  have zmrx := c_X11_part l G ox ax (hf := hfx)
  refine g_goL C h zmrx.1 (is := [0]) rfl rfl (g_runV C h (is := [0]) rfl rfl (As := [.int (xs (x3 + 1).toNatClampNeg)]) (rest := []) (zmrx.2 _) vf_L_118 0 0 rfl rfl hl.1 rfl rfl (Nat.le_of_ble_eq_true rfl) dL_law_872 ⟨Nat.le_of_ble_eq_true rfl, Nat.le_of_ble_eq_true rfl⟩ hcs) (us2 := [uX11 G ox ax rx.2, uX9 G (ax 0) an vn, uG G (ax 1) f, uA G 200 (ax 2) tx, uX8 G (ax 9) (fun _ => ok) vsw, uX2 G ok akd, uX8 G (ad 0) (fun _ => ok) vds, uX0 G (ax 10) ad vd, uX6 G (ax 11) (upn asr 0 ok) vse, uX5 G (ax 12) (upn ar 3 t3) vr, uX9 G (ar 0) adr vdr, imU G im0, imU G im1, uX12 G om am vm, uA G 63 (am 0) w, uA G 52 (am 22) nx]) rfl (fun H locs h => ?_)
  refine lv_aload_n C.hx C.hb dL_law_875 rfl (lv_at hl 2 rfl) ?_
  refine lv_aload_n C.hx C.hb dL_law_876 rfl (lv_at hl 0 rfl) ?_
  refine lv_iload_n C.hx C.hb dL_law_877 rfl (lv_at hl 3 rfl) ?_
  refine lv_iconst (v := 1) C.hx C.hb dL_law_878 (by decide) ?_
  refine lv_iadd C.hx C.hb dL_law_879 ?_
  refine va_sld C.hx C.hb hX hbl (Nat.not_le.mpr hbl) h.2.2 hi1 dL_law_880 ?_
  have zmrm := c_X12_part l G om am (hf := hfm)
  refine g_goL C h zmrm.1 (is := [13]) rfl rfl (g_runV C h (is := [13]) rfl rfl (As := [.int (xs (x3 + 1).toNatClampNeg)]) (rest := [.long rx.1]) (zmrm.2 _) vf_L_122 13 0 rfl rfl hl.1 rfl rfl (Nat.le_of_ble_eq_true rfl) dL_law_881 ⟨Nat.le_of_ble_eq_true rfl, Nat.le_of_ble_eq_true rfl⟩ hcs) (us2 := [uX11 G ox ax rx.2, uX9 G (ax 0) an vn, uG G (ax 1) f, uA G 200 (ax 2) tx, uX8 G (ax 9) (fun _ => ok) vsw, uX2 G ok akd, uX8 G (ad 0) (fun _ => ok) vds, uX0 G (ax 10) ad vd, uX6 G (ax 11) (upn asr 0 ok) vse, uX5 G (ax 12) (upn ar 3 t3) vr, uX9 G (ar 0) adr vdr, imU G im0, imU G im1, uX12 G om am rm.2, uA G 63 (am 0) w, uA G 52 (am 22) nx]) rfl (fun H locs h => ?_)
  refine W.lcmp C.hx C.hb dL_law_884 ?_
  refine lv_if_eq (tgt := 996) C.hx C.hb dL_law_885 (by decide) (fun _ => ?_) (fun zc => absurd (lg_cmp_same heq) zc)
  refine W.widen (k := cells + 11) (n := slots + 69) (by omega) (by omega) ?_
  exact hE hI hfd h hl
set_option maxRecDepth 100000 in
set_option maxHeartbeats 4000000 in
theorem lc_status {p : Program} {l : Launch} {e : Env} {s : State} {m : MethodId} {below : List Frame} {meth : Method} {c : Code} {G : GG} {b L : Nat} {xs : Nat → Int32} {ox om ok : Nat} {ax an akd ad asr ar adr am : Nat → Nat} {N : Nat} {vob : US} {vn : US} {vsw : US} {vds : US} {vd : US} {vse : US} {vr : US} {vdr : US} {vm : US} {tx : Nat → Int32} {w : Nat → Int32} {nx : Nat → Int32} {t3 : Nat} {f : Nat → Option Nat} {im0 : Option (Nat × (Nat → Nat) × US)} {im1 : Option (Nat × (Nat → Nat) × US)} {cells slots : Nat} {Q : State → Prop} {x3 : Int32} (hN : 200000 ≤ N) (C : MC RL code 4 ret G (fun q : Nat => s.heap.size ≤ q) p s m #[Value.ref b] meth c) (hX : va_X b L xs s s.heap) (hbl : b < s.heap.size) (hcs : cells ≤ room_1.cells ∧ slots ≤ room_1.slots) (hcj : cells + 11 ≤ room_1.cells ∧ slots + 69 ≤ room_1.slots) (hi1 : vp_in (x3 + 1) L) (hi2 : vp_in (x3 + 2) L) (hi3 : vp_in (x3 + 3) L) (hi4 : vp_in (x3 + 4) L) (hE : ∀ {vob : US} {vn : US} {vsw : US} {vds : US} {vd : US} {vse : US} {vr : US} {vdr : US} {vm : US} {tx : Nat → Int32} {w : Nat → Int32} {nx : Nat → Int32} {t3 : Nat} {f : Nat → Option Nat} {im0 : Option (Nat × (Nat → Nat) × US)} {im1 : Option (Nat × (Nat → Nat) × US)} {H : Heap} {locs : List Loc} {ls : Array Slot}, Inv vob vn tx (im0.map fun q => q.2.2) (im1.map fun q => q.2.2) vm w → (f 0 = im0.map fun q => q.1) ∧ (f 1 = im1.map fun q => q.1) → HP G (fun q : Nat => s.heap.size ≤ q) s [uX11 G ox ax vob, uX9 G (ax 0) an vn, uG G (ax 1) f, uA G 200 (ax 2) tx, uX8 G (ax 9) (fun _ => ok) vsw, uX2 G ok akd, uX8 G (ad 0) (fun _ => ok) vds, uX0 G (ax 10) ad vd, uX6 G (ax 11) (upn asr 0 ok) vse, uX5 G (ax 12) (upn ar 3 t3) vr, uX9 G (ar 0) adr vdr, imU G im0, imU G im1, uX12 G om am vm, uA G 63 (am 0) w, uA G 52 (am 22) nx] H locs → lv_has ls 4 [(0, .ref b), (1, .ref ox), (2, .ref om), (3, .int x3)] → W p l e room_1 s m #[Value.ref b] below meth c H locs (cells + 11) (slots + 69) Q (F0 m 996 ls [])) (hI : Inv vob vn tx (im0.map fun q => q.2.2) (im1.map fun q => q.2.2) vm w) (hfd : (f 0 = im0.map fun q => q.1) ∧ (f 1 = im1.map fun q => q.1)) {H : Heap} {locs : List Loc} {ls : Array Slot} (h : HP G (fun q : Nat => s.heap.size ≤ q) s [uX11 G ox ax vob, uX9 G (ax 0) an vn, uG G (ax 1) f, uA G 200 (ax 2) tx, uX8 G (ax 9) (fun _ => ok) vsw, uX2 G ok akd, uX8 G (ad 0) (fun _ => ok) vds, uX0 G (ax 10) ad vd, uX6 G (ax 11) (upn asr 0 ok) vse, uX5 G (ax 12) (upn ar 3 t3) vr, uX9 G (ar 0) adr vdr, imU G im0, imU G im1, uX12 G om am vm, uA G 63 (am 0) w, uA G 52 (am 22) nx] H locs) (hl : lv_has ls 4 [(0, .ref b), (1, .ref ox), (2, .ref om), (3, .int x3)]) : W p l e room_1 s m #[Value.ref b] below meth c H locs cells slots Q (F0 m 936 ls []) := by
  refine lv_aload_n C.hx C.hb dL_law_936 rfl (lv_at hl 1 rfl) ?_
  refine lv_aload_n C.hx C.hb dL_law_937 rfl (lv_at hl 0 rfl) ?_
  refine lv_iload_n C.hx C.hb dL_law_938 rfl (lv_at hl 3 rfl) ?_
  refine lv_iconst (v := 1) C.hx C.hb dL_law_939 (by decide) ?_
  refine lv_iadd C.hx C.hb dL_law_940 ?_
  refine va_sld C.hx C.hb hX hbl (Nat.not_le.mpr hbl) h.2.2 hi1 dL_law_941 ?_
  obtain ⟨rx, rm, hfx, hfm, heq, hI⟩ := sim_status hN hI (xs (x3 + 1).toNatClampNeg)
  have zmrx := c_X11_status l G ox ax (hf := hfx)
  refine g_goI C h zmrx.1 (is := [0]) rfl rfl (g_runV C h (is := [0]) rfl rfl (As := [.int (xs (x3 + 1).toNatClampNeg)]) (rest := []) (zmrx.2 _) vf_L_131 0 0 rfl rfl hl.1 rfl rfl (Nat.le_of_ble_eq_true rfl) dL_law_942 ⟨Nat.le_of_ble_eq_true rfl, Nat.le_of_ble_eq_true rfl⟩ hcs) (us2 := [uX11 G ox ax rx.2, uX9 G (ax 0) an vn, uG G (ax 1) f, uA G 200 (ax 2) tx, uX8 G (ax 9) (fun _ => ok) vsw, uX2 G ok akd, uX8 G (ad 0) (fun _ => ok) vds, uX0 G (ax 10) ad vd, uX6 G (ax 11) (upn asr 0 ok) vse, uX5 G (ax 12) (upn ar 3 t3) vr, uX9 G (ar 0) adr vdr, imU G im0, imU G im1, uX12 G om am vm, uA G 63 (am 0) w, uA G 52 (am 22) nx]) rfl (fun H locs h => ?_)
  refine lv_aload_n C.hx C.hb dL_law_945 rfl (lv_at hl 2 rfl) ?_
  refine lv_aload_n C.hx C.hb dL_law_946 rfl (lv_at hl 0 rfl) ?_
  refine lv_iload_n C.hx C.hb dL_law_947 rfl (lv_at hl 3 rfl) ?_
  refine lv_iconst (v := 1) C.hx C.hb dL_law_948 (by decide) ?_
  refine lv_iadd C.hx C.hb dL_law_949 ?_
  refine va_sld C.hx C.hb hX hbl (Nat.not_le.mpr hbl) h.2.2 hi1 dL_law_950 ?_
  have zmrm := c_X12_status l G om am (hf := hfm)
  refine g_goI C h zmrm.1 (is := [13]) rfl rfl (g_runV C h (is := [13]) rfl rfl (As := [.int (xs (x3 + 1).toNatClampNeg)]) (rest := [.int rx.1]) (zmrm.2 _) vf_L_134 13 0 rfl rfl hl.1 rfl rfl (Nat.le_of_ble_eq_true rfl) dL_law_951 ⟨Nat.le_of_ble_eq_true rfl, Nat.le_of_ble_eq_true rfl⟩ hcs) (us2 := [uX11 G ox ax rx.2, uX9 G (ax 0) an vn, uG G (ax 1) f, uA G 200 (ax 2) tx, uX8 G (ax 9) (fun _ => ok) vsw, uX2 G ok akd, uX8 G (ad 0) (fun _ => ok) vds, uX0 G (ax 10) ad vd, uX6 G (ax 11) (upn asr 0 ok) vse, uX5 G (ax 12) (upn ar 3 t3) vr, uX9 G (ar 0) adr vdr, imU G im0, imU G im1, uX12 G om am rm.2, uA G 63 (am 0) w, uA G 52 (am 22) nx]) rfl (fun H locs h => ?_)
  refine lv_icmp_eq (tgt := 996) C.hx C.hb dL_law_954 (by decide) (fun _ => ?_) (fun zc => absurd heq zc)
  refine W.widen (k := cells + 11) (n := slots + 69) (by omega) (by omega) ?_
  exact hE hI hfd h hl
set_option maxRecDepth 100000 in
set_option maxHeartbeats 4000000 in
theorem lc_count {p : Program} {l : Launch} {e : Env} {s : State} {m : MethodId} {below : List Frame} {meth : Method} {c : Code} {G : GG} {b L : Nat} {xs : Nat → Int32} {ox om ok : Nat} {ax an akd ad asr ar adr am : Nat → Nat} {N : Nat} {vob : US} {vn : US} {vsw : US} {vds : US} {vd : US} {vse : US} {vr : US} {vdr : US} {vm : US} {tx : Nat → Int32} {w : Nat → Int32} {nx : Nat → Int32} {t3 : Nat} {f : Nat → Option Nat} {im0 : Option (Nat × (Nat → Nat) × US)} {im1 : Option (Nat × (Nat → Nat) × US)} {cells slots : Nat} {Q : State → Prop} {x3 : Int32} (hN : 200000 ≤ N) (C : MC RL code 4 ret G (fun q : Nat => s.heap.size ≤ q) p s m #[Value.ref b] meth c) (hX : va_X b L xs s s.heap) (hbl : b < s.heap.size) (hcs : cells ≤ room_1.cells ∧ slots ≤ room_1.slots) (hcj : cells + 11 ≤ room_1.cells ∧ slots + 69 ≤ room_1.slots) (hi1 : vp_in (x3 + 1) L) (hi2 : vp_in (x3 + 2) L) (hi3 : vp_in (x3 + 3) L) (hi4 : vp_in (x3 + 4) L) (hE : ∀ {vob : US} {vn : US} {vsw : US} {vds : US} {vd : US} {vse : US} {vr : US} {vdr : US} {vm : US} {tx : Nat → Int32} {w : Nat → Int32} {nx : Nat → Int32} {t3 : Nat} {f : Nat → Option Nat} {im0 : Option (Nat × (Nat → Nat) × US)} {im1 : Option (Nat × (Nat → Nat) × US)} {H : Heap} {locs : List Loc} {ls : Array Slot}, Inv vob vn tx (im0.map fun q => q.2.2) (im1.map fun q => q.2.2) vm w → (f 0 = im0.map fun q => q.1) ∧ (f 1 = im1.map fun q => q.1) → HP G (fun q : Nat => s.heap.size ≤ q) s [uX11 G ox ax vob, uX9 G (ax 0) an vn, uG G (ax 1) f, uA G 200 (ax 2) tx, uX8 G (ax 9) (fun _ => ok) vsw, uX2 G ok akd, uX8 G (ad 0) (fun _ => ok) vds, uX0 G (ax 10) ad vd, uX6 G (ax 11) (upn asr 0 ok) vse, uX5 G (ax 12) (upn ar 3 t3) vr, uX9 G (ar 0) adr vdr, imU G im0, imU G im1, uX12 G om am vm, uA G 63 (am 0) w, uA G 52 (am 22) nx] H locs → lv_has ls 4 [(0, .ref b), (1, .ref ox), (2, .ref om), (3, .int x3)] → W p l e room_1 s m #[Value.ref b] below meth c H locs (cells + 11) (slots + 69) Q (F0 m 996 ls [])) (hI : Inv vob vn tx (im0.map fun q => q.2.2) (im1.map fun q => q.2.2) vm w) (hfd : (f 0 = im0.map fun q => q.1) ∧ (f 1 = im1.map fun q => q.1)) {H : Heap} {locs : List Loc} {ls : Array Slot} (h : HP G (fun q : Nat => s.heap.size ≤ q) s [uX11 G ox ax vob, uX9 G (ax 0) an vn, uG G (ax 1) f, uA G 200 (ax 2) tx, uX8 G (ax 9) (fun _ => ok) vsw, uX2 G ok akd, uX8 G (ad 0) (fun _ => ok) vds, uX0 G (ax 10) ad vd, uX6 G (ax 11) (upn asr 0 ok) vse, uX5 G (ax 12) (upn ar 3 t3) vr, uX9 G (ar 0) adr vdr, imU G im0, imU G im1, uX12 G om am vm, uA G 63 (am 0) w, uA G 52 (am 22) nx] H locs) (hl : lv_has ls 4 [(0, .ref b), (1, .ref ox), (2, .ref om), (3, .int x3)]) : W p l e room_1 s m #[Value.ref b] below meth c H locs cells slots Q (F0 m 959 ls []) := by
  refine lv_aload_n C.hx C.hb dL_law_959 rfl (lv_at hl 1 rfl) ?_
  refine lv_aload_n C.hx C.hb dL_law_960 rfl (lv_at hl 0 rfl) ?_
  refine lv_iload_n C.hx C.hb dL_law_961 rfl (lv_at hl 3 rfl) ?_
  refine lv_iconst (v := 1) C.hx C.hb dL_law_962 (by decide) ?_
  refine lv_iadd C.hx C.hb dL_law_963 ?_
  refine va_sld C.hx C.hb hX hbl (Nat.not_le.mpr hbl) h.2.2 hi1 dL_law_964 ?_
  obtain ⟨rx, rm, hfx, hfm, heq, hI⟩ := sim_count hN hI (xs (x3 + 1).toNatClampNeg)
  have zmrx := c_X11_count l G ox ax an (hf := hfx)
  refine g_goI C h zmrx.1 (is := [0, 1]) rfl rfl (g_runV C h (is := [0, 1]) rfl rfl (As := [.int (xs (x3 + 1).toNatClampNeg)]) (rest := []) (zmrx.2 _) vf_L_135 0 0 rfl rfl hl.1 rfl rfl (Nat.le_of_ble_eq_true rfl) dL_law_965 ⟨Nat.le_of_ble_eq_true rfl, Nat.le_of_ble_eq_true rfl⟩ hcs) (us2 := [uX11 G ox ax rx.2, uX9 G (ax 0) an vn, uG G (ax 1) f, uA G 200 (ax 2) tx, uX8 G (ax 9) (fun _ => ok) vsw, uX2 G ok akd, uX8 G (ad 0) (fun _ => ok) vds, uX0 G (ax 10) ad vd, uX6 G (ax 11) (upn asr 0 ok) vse, uX5 G (ax 12) (upn ar 3 t3) vr, uX9 G (ar 0) adr vdr, imU G im0, imU G im1, uX12 G om am vm, uA G 63 (am 0) w, uA G 52 (am 22) nx]) rfl (fun H locs h => ?_)
  refine lv_aload_n C.hx C.hb dL_law_968 rfl (lv_at hl 2 rfl) ?_
  refine lv_aload_n C.hx C.hb dL_law_969 rfl (lv_at hl 0 rfl) ?_
  refine lv_iload_n C.hx C.hb dL_law_970 rfl (lv_at hl 3 rfl) ?_
  refine lv_iconst (v := 1) C.hx C.hb dL_law_971 (by decide) ?_
  refine lv_iadd C.hx C.hb dL_law_972 ?_
  refine va_sld C.hx C.hb hX hbl (Nat.not_le.mpr hbl) h.2.2 hi1 dL_law_973 ?_
  have zmrm := c_X12_count l G om am N (hf := hfm)
  refine g_goI C h zmrm.1 (is := [13, 14]) rfl rfl (g_runV C h (is := [13, 14]) rfl rfl (As := [.int (xs (x3 + 1).toNatClampNeg)]) (rest := [.int rx.1]) (zmrm.2 _) vf_L_138 13 0 rfl rfl hl.1 rfl rfl (Nat.le_of_ble_eq_true rfl) dL_law_974 ⟨Nat.le_of_ble_eq_true rfl, Nat.le_of_ble_eq_true rfl⟩ hcs) (us2 := [uX11 G ox ax rx.2, uX9 G (ax 0) an vn, uG G (ax 1) f, uA G 200 (ax 2) tx, uX8 G (ax 9) (fun _ => ok) vsw, uX2 G ok akd, uX8 G (ad 0) (fun _ => ok) vds, uX0 G (ax 10) ad vd, uX6 G (ax 11) (upn asr 0 ok) vse, uX5 G (ax 12) (upn ar 3 t3) vr, uX9 G (ar 0) adr vdr, imU G im0, imU G im1, uX12 G om am rm.2, uA G 63 (am 0) w, uA G 52 (am 22) nx]) rfl (fun H locs h => ?_)
  refine lv_icmp_eq (tgt := 996) C.hx C.hb dL_law_977 (by decide) (fun _ => ?_) (fun zc => absurd heq zc)
  refine W.widen (k := cells + 11) (n := slots + 69) (by omega) (by omega) ?_
  exact hE hI hfd h hl
set_option maxRecDepth 100000 in
set_option maxHeartbeats 4000000 in
theorem lc_digest {p : Program} {l : Launch} {e : Env} {s : State} {m : MethodId} {below : List Frame} {meth : Method} {c : Code} {G : GG} {b L : Nat} {xs : Nat → Int32} {ox om ok : Nat} {ax an akd ad asr ar adr am : Nat → Nat} {N : Nat} {vob : US} {vn : US} {vsw : US} {vds : US} {vd : US} {vse : US} {vr : US} {vdr : US} {vm : US} {tx : Nat → Int32} {w : Nat → Int32} {nx : Nat → Int32} {t3 : Nat} {f : Nat → Option Nat} {im0 : Option (Nat × (Nat → Nat) × US)} {im1 : Option (Nat × (Nat → Nat) × US)} {cells slots : Nat} {Q : State → Prop} {x3 : Int32} (hN : 200000 ≤ N) (C : MC RL code 4 ret G (fun q : Nat => s.heap.size ≤ q) p s m #[Value.ref b] meth c) (hX : va_X b L xs s s.heap) (hbl : b < s.heap.size) (hcs : cells ≤ room_1.cells ∧ slots ≤ room_1.slots) (hcj : cells + 11 ≤ room_1.cells ∧ slots + 69 ≤ room_1.slots) (hi1 : vp_in (x3 + 1) L) (hi2 : vp_in (x3 + 2) L) (hi3 : vp_in (x3 + 3) L) (hi4 : vp_in (x3 + 4) L) (hE : ∀ {vob : US} {vn : US} {vsw : US} {vds : US} {vd : US} {vse : US} {vr : US} {vdr : US} {vm : US} {tx : Nat → Int32} {w : Nat → Int32} {nx : Nat → Int32} {t3 : Nat} {f : Nat → Option Nat} {im0 : Option (Nat × (Nat → Nat) × US)} {im1 : Option (Nat × (Nat → Nat) × US)} {H : Heap} {locs : List Loc} {ls : Array Slot}, Inv vob vn tx (im0.map fun q => q.2.2) (im1.map fun q => q.2.2) vm w → (f 0 = im0.map fun q => q.1) ∧ (f 1 = im1.map fun q => q.1) → HP G (fun q : Nat => s.heap.size ≤ q) s [uX11 G ox ax vob, uX9 G (ax 0) an vn, uG G (ax 1) f, uA G 200 (ax 2) tx, uX8 G (ax 9) (fun _ => ok) vsw, uX2 G ok akd, uX8 G (ad 0) (fun _ => ok) vds, uX0 G (ax 10) ad vd, uX6 G (ax 11) (upn asr 0 ok) vse, uX5 G (ax 12) (upn ar 3 t3) vr, uX9 G (ar 0) adr vdr, imU G im0, imU G im1, uX12 G om am vm, uA G 63 (am 0) w, uA G 52 (am 22) nx] H locs → lv_has ls 4 [(0, .ref b), (1, .ref ox), (2, .ref om), (3, .int x3)] → W p l e room_1 s m #[Value.ref b] below meth c H locs (cells + 11) (slots + 69) Q (F0 m 996 ls [])) (hI : Inv vob vn tx (im0.map fun q => q.2.2) (im1.map fun q => q.2.2) vm w) (hfd : (f 0 = im0.map fun q => q.1) ∧ (f 1 = im1.map fun q => q.1)) {H : Heap} {locs : List Loc} {ls : Array Slot} (h : HP G (fun q : Nat => s.heap.size ≤ q) s [uX11 G ox ax vob, uX9 G (ax 0) an vn, uG G (ax 1) f, uA G 200 (ax 2) tx, uX8 G (ax 9) (fun _ => ok) vsw, uX2 G ok akd, uX8 G (ad 0) (fun _ => ok) vds, uX0 G (ax 10) ad vd, uX6 G (ax 11) (upn asr 0 ok) vse, uX5 G (ax 12) (upn ar 3 t3) vr, uX9 G (ar 0) adr vdr, imU G im0, imU G im1, uX12 G om am vm, uA G 63 (am 0) w, uA G 52 (am 22) nx] H locs) (hl : lv_has ls 4 [(0, .ref b), (1, .ref ox), (2, .ref om), (3, .int x3)]) : W p l e room_1 s m #[Value.ref b] below meth c H locs cells slots Q (F0 m 982 ls []) := by
  refine lv_aload_n C.hx C.hb dL_law_982 rfl (lv_at hl 1 rfl) ?_
  obtain ⟨rx, rm, hfx, hfm, heq, hI⟩ := sim_digest hN hI 
  have zmrx := c_X11_digest l G ox ax an N (hf := hfx)
  refine g_goL C h zmrx.1 (is := [0, 1]) rfl rfl (g_runV C h (is := [0, 1]) rfl rfl (As := []) (rest := []) (zmrx.2 _) vf_L_139 0 0 rfl rfl hl.1 rfl rfl (Nat.le_of_ble_eq_true rfl) dL_law_983 ⟨Nat.le_of_ble_eq_true rfl, Nat.le_of_ble_eq_true rfl⟩ hcs) (us2 := [uX11 G ox ax vob, uX9 G (ax 0) an vn, uG G (ax 1) f, uA G 200 (ax 2) tx, uX8 G (ax 9) (fun _ => ok) vsw, uX2 G ok akd, uX8 G (ad 0) (fun _ => ok) vds, uX0 G (ax 10) ad vd, uX6 G (ax 11) (upn asr 0 ok) vse, uX5 G (ax 12) (upn ar 3 t3) vr, uX9 G (ar 0) adr vdr, imU G im0, imU G im1, uX12 G om am vm, uA G 63 (am 0) w, uA G 52 (am 22) nx]) rfl (fun H locs h => ?_)
  refine lv_aload_n C.hx C.hb dL_law_986 rfl (lv_at hl 2 rfl) ?_
  have zmrm := c_X12_digest l G om am N (hf := hfm)
  refine g_goL C h zmrm.1 (is := [13, 14]) rfl rfl (g_runV C h (is := [13, 14]) rfl rfl (As := []) (rest := [.long rx]) (zmrm.2 _) vf_L_143 13 0 rfl rfl hl.1 rfl rfl (Nat.le_of_ble_eq_true rfl) dL_law_987 ⟨Nat.le_of_ble_eq_true rfl, Nat.le_of_ble_eq_true rfl⟩ hcs) (us2 := [uX11 G ox ax vob, uX9 G (ax 0) an vn, uG G (ax 1) f, uA G 200 (ax 2) tx, uX8 G (ax 9) (fun _ => ok) vsw, uX2 G ok akd, uX8 G (ad 0) (fun _ => ok) vds, uX0 G (ax 10) ad vd, uX6 G (ax 11) (upn asr 0 ok) vse, uX5 G (ax 12) (upn ar 3 t3) vr, uX9 G (ar 0) adr vdr, imU G im0, imU G im1, uX12 G om am vm, uA G 63 (am 0) w, uA G 52 (am 22) nx]) rfl (fun H locs h => ?_)
  refine W.lcmp C.hx C.hb dL_law_990 ?_
  refine lv_if_eq (tgt := 996) C.hx C.hb dL_law_991 (by decide) (fun _ => ?_) (fun zc => absurd (lg_cmp_same heq) zc)
  refine W.widen (k := cells + 11) (n := slots + 69) (by omega) (by omega) ?_
  exact hE hI hfd h hl
