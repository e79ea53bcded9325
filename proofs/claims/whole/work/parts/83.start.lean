/-! THE CLAIM OUT OF ONE WALK OF THE LAW'S BODY. Your part is whole_start (and what it stands on); all else here is the same for every law, but numbers. -/
def R_law : String := "OneBellLaw"
def lw_P (b : Addr) (xs : List Int32) (args : Array Value) (s : State) : Prop := args = #[.ref b] ∧ s.IntsAt b xs ∧ xs.length ≤ 2560 ∧ (Jvm.Cond.and given_1 narrow_1).before args s = true
def lw_Q (_ : Array Value) (s : State) (o : Outcome) (t : State) : Prop := o = .returned (some (.int 1)) ∧ Framed s o t [] room_1.cells room_1.slots
def lw_Z (below : List Frame) (a : Array Value) (s : State) : State → Prop := fun t => ∃ o, t.status = .running ∧ Ended t below o ∧ lw_Q a s o t
/-- the law's own end, with 1 on the stack, nothing written that was there before, its room as the claim has it -/
theorem lw_ret {p : Program} {l : Launch} {e : Env} {s : State} {m : MethodId} {below : List Frame} {meth : Method} {c : Code} {b : Nat} (hx : p.tables.exec = Jvm.exec) (hb : c.code = code) (hr : meth.sig.returnType = ret) (hlocks : meth.locks = false) {pc : Nat} {H : Heap} {ls : Array Slot} (hdg : decode code pc = .ok (.ireturn, 1)) : W p l e room_1 s m #[Value.ref b] below meth c H [] room_1.cells room_1.slots (lw_Z below #[Value.ref b] s) (F0 m pc ls [.int 1]) := by
  intro T hT X
  obtain ⟨fs, hret, hrun, hended, hW, hframe⟩ := X.leave (v := some (.int 1)) (hlocks := hlocks) (fun h => by rw [hr] at h; cases h)
  have hmeth' : T.vm.method? m = some meth := X.method'
  refine ⟨T.setFrames fs, ?_, .returned (some (.int 1)), hrun, hended, rfl, ⟨_, rfl⟩, hW, hframe⟩
  jvm_step X.here [X.here.top, hx, hb, hdg, hmeth', hr, ret, narrow_b1]
  (try refine ⟨rfl, ?_⟩); (try refine ⟨rfl, ?_⟩)
  first | (intro acts; rw [hret _ acts rfl rfl rfl]) | rw [hret _ _ rfl rfl rfl]
  exact Steps.refl _
/-- what holds at the law's entry: the machine, the code, the tables' words (any of lw_tbl by 'hts w (by decide +kernel)'), the script of L ints xs at the cell b, what the Statement gives of the start (any of its parts by flat_of_before) -/
def lw_At (p : Program) (s : State) (m : MethodId) (meth : Method) (c : Code) (b L : Nat) (xs : Nat → Int32) : Prop :=
  p.tables.exec = Jvm.exec ∧ c.code = code ∧ meth.sig.returnType = ret ∧ c.maxLocals = 4 ∧ s.vm.findClass R_law = some m.cls ∧ (∀ w ∈ lw_tbl, w.before #[Value.ref b] s = true) ∧ va_X b L xs s s.heap ∧ b < s.heap.size ∧ meth.locks = false ∧ (Jvm.Cond.and given_1 narrow_1).before #[Value.ref b] s = true

set_option maxRecDepth 100000 in
set_option maxHeartbeats 4000000 in
theorem law_loop {p : Program} {l : Launch} {e : Env} {s : State} {m : MethodId} {below : List Frame} {meth : Method} {c : Code} {G : GG} {b L : Nat} {xs : Nat → Int32} {ox om ok : Nat} {ax an akd ad asr ar adr am : Nat → Nat} {N : Nat} (hN : 200000 ≤ N) (hL : L ≤ 2560) (C : MC RL code 4 ret G (fun q : Nat => s.heap.size ≤ q) p s m #[Value.ref b] meth c) (hX : va_X b L xs s s.heap) (hbl : b < s.heap.size) : ∀ (k i : Nat) {vob : US} {vn : US} {vsw : US} {vds : US} {vd : US} {vse : US} {vr : US} {vdr : US} {vm : US} {tx : Nat → Int32} {w : Nat → Int32} {nx : Nat → Int32} {t3 : Nat} {f : Nat → Option Nat} {im0 : Option (Nat × (Nat → Nat) × US)} {im1 : Option (Nat × (Nat → Nat) × US)} {cells slots : Nat} {x3 : Int32}, i ≤ L → L < i + 5 * k → x3 = nI i → cells + 11 * k ≤ 6000 → slots + 69 * k ≤ 40000 → Inv vob vn tx (im0.map fun q => q.2.2) (im1.map fun q => q.2.2) vm w → ((f 0 = im0.map fun q => q.1) ∧ (f 1 = im1.map fun q => q.1)) → ∀ {H : Heap} {locs : List Loc} {ls : Array Slot}, HP G (fun q : Nat => s.heap.size ≤ q) s [uX11 G ox ax vob, uX9 G (ax 0) an vn, uG G (ax 1) f, uA G 200 (ax 2) tx, uX8 G (ax 9) (fun _ => ok) vsw, uX2 G ok akd, uX8 G (ad 0) (fun _ => ok) vds, uX0 G (ax 10) ad vd, uX6 G (ax 11) (upn asr 0 ok) vse, uX5 G (ax 12) (upn ar 3 t3) vr, uX9 G (ar 0) adr vdr, imU G im0, imU G im1, uX12 G om am vm, uA G 63 (am 0) w, uA G 52 (am 22) nx] H locs → lv_has ls 4 [(0, .ref b), (1, .ref ox), (2, .ref om), (3, .int x3)] → W p l e room_1 s m #[Value.ref b] below meth c H locs cells slots (lw_Z below #[Value.ref b] s) (F0 m 18 ls []) := by
  intro k
  induction k with
  | zero => intro i; intros; omega
  | succ k ih =>
  intro i vob vn vsw vds vd vse vr vdr vm tx w nx t3 f im0 im1 cells slots x3 hi hk ex hc1 hc2 hI hfd H locs ls h hl
  refine lv_iload_n C.hx C.hb dL_law_18 rfl (lv_at hl 3 rfl) ?_
  refine lv_aload_n C.hx C.hb dL_law_19 rfl (lv_at hl 0 rfl) ?_
  refine va_slen C.hx C.hb hX hbl (Nat.not_le.mpr hbl) h.2.2 dL_law_20 ?_
  refine lv_iconst (v := 5) C.hx C.hb dL_law_21 (by decide) ?_
  refine lv_isub C.hx C.hb dL_law_22 ?_
  refine lv_icmp_gt (tgt := 1002) C.hx C.hb dL_law_23 (by decide) (fun zc => ?_) (fun zc => ?_)
  · refine lv_iconst (v := 1) C.hx C.hb dL_law_1002 (by decide) ?_
    refine va_forget (fun q hq => h.2.2.2.2 q hq) ?_
    refine W.widen (k := room_1.cells) (n := room_1.slots) (Nat.le_trans (m := 6000) (by omega) (by decide)) (Nat.le_trans (m := 40000) (by omega) (by decide)) ?_
    exact lw_ret C.hx C.hb C.hr C.hk dL_law_1003
  have h5 : i + 5 ≤ L := by
    rcases Nat.lt_or_ge L (i + 5) with q | q
    · refine absurd ?_ zc
      rw [ex]
      show nI L - nI 5 < nI i
      rw [Int32.lt_iff_toInt_lt, pk_sub_toInt (by omega) (by omega), nI_toInt (by omega)]
      omega
    · exact q
  have hi0 : vp_in x3 L := by rw [ex]; exact vp_in_nI (by omega) (by omega)
  have hi1 : vp_in (x3 + 1) L := by rw [ex]; exact (show vp_in (nI i + nI 1) L by rw [nI_add]; exact vp_in_nI (by omega) (by omega))
  have hi2 : vp_in (x3 + 2) L := by rw [ex]; exact (show vp_in (nI i + nI 2) L by rw [nI_add]; exact vp_in_nI (by omega) (by omega))
  have hi3 : vp_in (x3 + 3) L := by rw [ex]; exact (show vp_in (nI i + nI 3) L by rw [nI_add]; exact vp_in_nI (by omega) (by omega))
  have hi4 : vp_in (x3 + 4) L := by rw [ex]; exact (show vp_in (nI i + nI 4) L by rw [nI_add]; exact vp_in_nI (by omega) (by omega))
  have e5 : x3 + 5 = nI (i + 5) := by rw [ex]; exact nI_add i 5
  have hcs : cells ≤ room_1.cells ∧ slots ≤ room_1.slots := ⟨Nat.le_trans (m := 6000) (by omega) (by decide), Nat.le_trans (m := 40000) (by omega) (by decide)⟩
  have hcj : cells + 11 ≤ room_1.cells ∧ slots + 69 ≤ room_1.slots := ⟨Nat.le_trans (m := 6000) (by omega) (by decide), Nat.le_trans (m := 40000) (by omega) (by decide)⟩
  have hE : ∀ {vob : US} {vn : US} {vsw : US} {vds : US} {vd : US} {vse : US} {vr : US} {vdr : US} {vm : US} {tx : Nat → Int32} {w : Nat → Int32} {nx : Nat → Int32} {t3 : Nat} {f : Nat → Option Nat} {im0 : Option (Nat × (Nat → Nat) × US)} {im1 : Option (Nat × (Nat → Nat) × US)} {H : Heap} {locs : List Loc} {ls : Array Slot}, Inv vob vn tx (im0.map fun q => q.2.2) (im1.map fun q => q.2.2) vm w → (f 0 = im0.map fun q => q.1) ∧ (f 1 = im1.map fun q => q.1) → HP G (fun q : Nat => s.heap.size ≤ q) s [uX11 G ox ax vob, uX9 G (ax 0) an vn, uG G (ax 1) f, uA G 200 (ax 2) tx, uX8 G (ax 9) (fun _ => ok) vsw, uX2 G ok akd, uX8 G (ad 0) (fun _ => ok) vds, uX0 G (ax 10) ad vd, uX6 G (ax 11) (upn asr 0 ok) vse, uX5 G (ax 12) (upn ar 3 t3) vr, uX9 G (ar 0) adr vdr, imU G im0, imU G im1, uX12 G om am vm, uA G 63 (am 0) w, uA G 52 (am 22) nx] H locs → lv_has ls 4 [(0, .ref b), (1, .ref ox), (2, .ref om), (3, .int x3)] → W p l e room_1 s m #[Value.ref b] below meth c H locs (cells + 11) (slots + 69) (lw_Z below #[Value.ref b] s) (F0 m 996 ls []) := by
    intro vob vn vsw vds vd vse vr vdr vm tx w nx t3 f im0 im1 H locs ls hI hfd h hl
    refine lv_iinc (v := x3 + 5) (lv' := [(3, .int (x3 + 5)), (0, .ref b), (1, .ref ox), (2, .ref om)]) C.hx C.hb dL_law_996 hl (k := 3) rfl rfl (by decide) rfl (fun ls hl => ?_)
    refine lv_goto (tgt := 18) C.hx C.hb dL_law_999 (by decide) ?_
    exact ih (i + 5) (by omega) (by omega) e5 (by omega) (by omega) hI hfd h (lv_sub hl [1, 2, 3, 0] rfl)
  refine lv_aload_n C.hx C.hb dL_law_26 rfl (lv_at hl 0 rfl) ?_
  refine lv_iload_n C.hx C.hb dL_law_27 rfl (lv_at hl 3 rfl) ?_
  refine va_sld C.hx C.hb hX hbl (Nat.not_le.mpr hbl) h.2.2 hi0 dL_law_28 ?_
  refine lv_bipush (v := 31) C.hx C.hb dL_law_29 (by decide) ?_
  refine lv_iand C.hx C.hb dL_law_31 ?_
  obtain ⟨j, hj, ej⟩ := pk_andE (xs x3.toNatClampNeg) (m := 31) 5 (by decide)
  rw [ej]
  match j, hj with
  | 0, _ =>
    refine lv_tableIn (tgt := 168) (off := 136) C.hx C.hb dL_law_32 (by decide) (by decide) rfl (by decide) ?_
    exact lc_thing hN C hX hbl hcs hcj hi1 hi2 hi3 hi4 hE hI hfd h hl
  | 1, _ =>
    refine lv_tableIn (tgt := 221) (off := 189) C.hx C.hb dL_law_32 (by decide) (by decide) rfl (by decide) ?_
    exact lc_rope hN C hX hbl hcs hcj hi1 hi2 hi3 hi4 hE hI hfd h hl
  | 2, _ =>
    refine lv_tableIn (tgt := 270) (off := 238) C.hx C.hb dL_law_32 (by decide) (by decide) rfl (by decide) ?_
    exact lc_damp hN C hX hbl hcs hcj hi1 hi2 hi3 hi4 hE hI hfd h hl
  | 3, _ =>
    refine lv_tableIn (tgt := 293) (off := 261) C.hx C.hb dL_law_32 (by decide) (by decide) rfl (by decide) ?_
    exact lc_type hN C hX hbl hcs hcj hi1 hi2 hi3 hi4 hE hI hfd h hl
  | 4, _ =>
    refine lv_tableIn (tgt := 356) (off := 324) C.hx C.hb dL_law_32 (by decide) (by decide) rfl (by decide) ?_
    exact lc_clear hN C hX hbl hcs hcj hi1 hi2 hi3 hi4 hE hI hfd h hl
  | 5, _ =>
    refine lv_tableIn (tgt := 369) (off := 337) C.hx C.hb dL_law_32 (by decide) (by decide) rfl (by decide) ?_
    exact lc_read hN C hX hbl hcs hcj hi1 hi2 hi3 hi4 hE hI hfd h hl
  | 6, _ =>
    refine lv_tableIn (tgt := 382) (off := 350) C.hx C.hb dL_law_32 (by decide) (by decide) rfl (by decide) ?_
    exact lc_pull hN C hX hbl hcs hcj hi1 hi2 hi3 hi4 hE hI hfd h hl
  | 7, _ =>
    refine lv_tableIn (tgt := 415) (off := 383) C.hx C.hb dL_law_32 (by decide) (by decide) rfl (by decide) ?_
    exact lc_both hN C hX hbl hcs hcj hi1 hi2 hi3 hi4 hE hI hfd h hl
  | 8, _ =>
    refine lv_tableIn (tgt := 468) (off := 436) C.hx C.hb dL_law_32 (by decide) (by decide) rfl (by decide) ?_
    exact lc_would hN C hX hbl hcs hcj hi1 hi2 hi3 hi4 hE hI hfd h hl
  | 9, _ =>
    refine lv_tableIn (tgt := 501) (off := 469) C.hx C.hb dL_law_32 (by decide) (by decide) rfl (by decide) ?_
    exact lc_open hN C hX hbl hcs hcj hi1 hi2 hi3 hi4 hE hI hfd h hl
  | 10, _ =>
    refine lv_tableIn (tgt := 514) (off := 482) C.hx C.hb dL_law_32 (by decide) (by decide) rfl (by decide) ?_
    exact lc_moves hN C hX hbl hcs hcj hi1 hi2 hi3 hi4 hE hI hfd h hl
  | 11, _ =>
    refine lv_tableIn (tgt := 557) (off := 525) C.hx C.hb dL_law_32 (by decide) (by decide) rfl (by decide) ?_
    exact lc_undo hN C hX hbl hcs hcj hi1 hi2 hi3 hi4 hE hI hfd h hl
  | 12, _ =>
    refine lv_tableIn (tgt := 570) (off := 538) C.hx C.hb dL_law_32 (by decide) (by decide) rfl (by decide) ?_
    exact lc_errand hN C hX hbl hcs hcj hi1 hi2 hi3 hi4 hE hI hfd h hl
  | 13, _ =>
    refine lv_tableIn (tgt := 603) (off := 571) C.hx C.hb dL_law_32 (by decide) (by decide) rfl (by decide) ?_
    exact lc_drop hN C hX hbl hcs hcj hi1 hi2 hi3 hi4 hE hI hfd h hl
  | 14, _ =>
    refine lv_tableIn (tgt := 616) (off := 584) C.hx C.hb dL_law_32 (by decide) (by decide) rfl (by decide) ?_
    exact lc_order hN C hX hbl hcs hcj hi1 hi2 hi3 hi4 hE hI hfd h hl
  | 15, _ =>
    refine lv_tableIn (tgt := 639) (off := 607) C.hx C.hb dL_law_32 (by decide) (by decide) rfl (by decide) ?_
    exact lc_code hN C hX hbl hcs hcj hi1 hi2 hi3 hi4 hE hI hfd h hl
  | 16, _ =>
    refine lv_tableIn (tgt := 672) (off := 640) C.hx C.hb dL_law_32 (by decide) (by decide) rfl (by decide) ?_
    exact lc_who hN C hX hbl hcs hcj hi1 hi2 hi3 hi4 hE hI hfd h hl
  | 17, _ =>
    refine lv_tableIn (tgt := 705) (off := 673) C.hx C.hb dL_law_32 (by decide) (by decide) rfl (by decide) ?_
    exact lc_heard hN C hX hbl hcs hcj hi1 hi2 hi3 hi4 hE hI hfd h hl
  | 18, _ =>
    refine lv_tableIn (tgt := 728) (off := 696) C.hx C.hb dL_law_32 (by decide) (by decide) rfl (by decide) ?_
    exact lc_cuts hN C hX hbl hcs hcj hi1 hi2 hi3 hi4 hE hI hfd h hl
  | 19, _ =>
    refine lv_tableIn (tgt := 751) (off := 719) C.hx C.hb dL_law_32 (by decide) (by decide) rfl (by decide) ?_
    exact lc_rule hN C hX hbl hcs hcj hi1 hi2 hi3 hi4 hE hI hfd h hl
  | 20, _ =>
    refine lv_tableIn (tgt := 794) (off := 762) C.hx C.hb dL_law_32 (by decide) (by decide) rfl (by decide) ?_
    exact lc_free hN C hX hbl hcs hcj hi1 hi2 hi3 hi4 hE hI hfd h hl
  | 21, _ =>
    refine lv_tableIn (tgt := 807) (off := 775) C.hx C.hb dL_law_32 (by decide) (by decide) rfl (by decide) ?_
    exact lc_slack hN C hX hbl hcs hcj hi1 hi2 hi3 hi4 hE hI hfd h hl
  | 22, _ =>
    refine lv_tableIn (tgt := 830) (off := 798) C.hx C.hb dL_law_32 (by decide) (by decide) rfl (by decide) ?_
    exact lc_giveUp hN C hX hbl hcs hcj hi1 hi2 hi3 hi4 hE hI hfd h hl
  | 23, _ =>
    refine lv_tableIn (tgt := 843) (off := 811) C.hx C.hb dL_law_32 (by decide) (by decide) rfl (by decide) ?_
    exact lc_share hN C hX hbl hcs hcj hi1 hi2 hi3 hi4 hE hI hfd h hl
  | 24, _ =>
    refine lv_tableIn (tgt := 866) (off := 834) C.hx C.hb dL_law_32 (by decide) (by decide) rfl (by decide) ?_
    exact lc_part hN C hX hbl hcs hcj hi1 hi2 hi3 hi4 hE hI hfd h hl
  | 25, _ =>
    refine lv_tableIn (tgt := 890) (off := 858) C.hx C.hb dL_law_32 (by decide) (by decide) rfl (by decide) ?_
    exact lc_image hN C hX hbl hcs hcj hi1 hi2 hi3 hi4 hE hI hfd h hl
  | 26, _ =>
    refine lv_tableIn (tgt := 913) (off := 881) C.hx C.hb dL_law_32 (by decide) (by decide) rfl (by decide) ?_
    exact lc_from hN C hX hbl hcs hcj hi1 hi2 hi3 hi4 hE hI hfd h hl
  | 27, _ =>
    refine lv_tableIn (tgt := 936) (off := 904) C.hx C.hb dL_law_32 (by decide) (by decide) rfl (by decide) ?_
    exact lc_status hN C hX hbl hcs hcj hi1 hi2 hi3 hi4 hE hI hfd h hl
  | 28, _ =>
    refine lv_tableIn (tgt := 959) (off := 927) C.hx C.hb dL_law_32 (by decide) (by decide) rfl (by decide) ?_
    exact lc_count hN C hX hbl hcs hcj hi1 hi2 hi3 hi4 hE hI hfd h hl
  | 29, _ =>
    refine lv_tableIn (tgt := 982) (off := 950) C.hx C.hb dL_law_32 (by decide) (by decide) rfl (by decide) ?_
    exact lc_digest hN C hX hbl hcs hcj hi1 hi2 hi3 hi4 hE hI hfd h hl
  | 30, _ =>
    refine lv_tableOut (tgt := 996) C.hx C.hb dL_law_32 (by decide) (by decide) ?_
    refine W.widen (k := cells + 11) (n := slots + 69) (by omega) (by omega) ?_
    exact hE hI hfd h hl
  | 31, _ =>
    refine lv_tableOut (tgt := 996) C.hx C.hb dL_law_32 (by decide) (by decide) ?_
    refine W.widen (k := cells + 11) (n := slots + 69) (by omega) (by omega) ?_
    exact hE hI hfd h hl
  | j + 32, hj => exact absurd hj (by omega)

theorem cl_L_7 : Cond.classLink RL 7 RX11 ∈ gt := gt_of 21 (by decide +kernel) rfl
theorem in_X11 : Cond.instantiable RX11 13 ∈ gt := gt_of 22 (by decide +kernel) rfl
theorem it_X11 : Cond.initialized RX11 ∈ gt := gt_of 1 (by decide +kernel) rfl
theorem df_X11 : ∀ j, j < 13 → defaultValue (tyX11 j) = vp_V [.null, .null, .null, .int 0, .long 0, .long 0, .int 0, .int 0, .int 0, .null, .null, .null, .null] j := by
  intro j hj
  match j, hj with
  | 0, _ => rfl
  | 1, _ => rfl
  | 2, _ => rfl
  | 3, _ => rfl
  | 4, _ => rfl
  | 5, _ => rfl
  | 6, _ => rfl
  | 7, _ => rfl
  | 8, _ => rfl
  | 9, _ => rfl
  | 10, _ => rfl
  | 11, _ => rfl
  | 12, _ => rfl
  | j + 13, hj => omega
theorem im_X11_init : Cond.instanceMethod yX11_init ∈ gt := gt_of 24 (by decide +kernel) rfl
theorem cl_L_10 : Cond.classLink RL 10 RX12 ∈ gt := gt_of 877 (by decide +kernel) rfl
theorem in_X12 : Cond.instantiable RX12 24 ∈ gt := gt_of 878 (by decide +kernel) rfl
theorem it_X12 : Cond.initialized RX12 ∈ gt := gt_of 13 (by decide +kernel) rfl
theorem df_X12 : ∀ j, j < 24 → defaultValue (tyX12 j) = vp_V [.null, .null, .null, .null, .long 0, .long 0, .null, .int 0, .int 0, .int 0, .int 0, .int 0, .null, .null, .int 0, .null, .null, .int 0, .int 0, .int 0, .int 0, .int 0, .null, .null] j := by
  intro j hj
  match j, hj with
  | 0, _ => rfl
  | 1, _ => rfl
  | 2, _ => rfl
  | 3, _ => rfl
  | 4, _ => rfl
  | 5, _ => rfl
  | 6, _ => rfl
  | 7, _ => rfl
  | 8, _ => rfl
  | 9, _ => rfl
  | 10, _ => rfl
  | 11, _ => rfl
  | 12, _ => rfl
  | 13, _ => rfl
  | 14, _ => rfl
  | 15, _ => rfl
  | 16, _ => rfl
  | 17, _ => rfl
  | 18, _ => rfl
  | 19, _ => rfl
  | 20, _ => rfl
  | 21, _ => rfl
  | 22, _ => rfl
  | 23, _ => rfl
  | j + 24, hj => omega
theorem im_X12_init : Cond.instanceMethod yX12_init ∈ gt := gt_of 880 (by decide +kernel) rfl
theorem mi_L_9 : Cond.methodLink RL 9 yX11_init ∈ gt := gt_of 23 (by decide +kernel) rfl
theorem mi_L_12 : Cond.methodLink RL 12 yX12_init ∈ gt := gt_of 879 (by decide +kernel) rfl
theorem g_runIA {own : String} {cc : ByteArray} {nL : Nat} {rt : Option FieldType} {G : GG} {A : Nat → Prop} {p : Program} {l : Launch} {e : Env} {R : Room} {s : State} {m : MethodId} {args : Array Value} {below : List Frame} {meth : Method} {c : Code} {H : Heap} {locs : List Loc} {cells slots : Nat} {pc : Nat} {ls : Array Slot} {rest st0 : List Value} {us : List va_W} {y : MethodName} {bytes : ByteArray} {maxL index n d mc ms b i : Nat} {As : List Value} {u0 : va_W} {u1 : (Nat → Nat) → va_W} {nu : (Nat → Nat) → List va_W} (hao : va_AO "OneBell$Village" s) (C : MC own cc nL rt G A p s m args meth c) (h : HP G A s us H locs) (hu : us[i]? = some u0) (hM : MKA l y bytes maxL d mc ms (.ref b :: As) G u0 u1 nu) (hl1 : Cond.methodLink own index y ∈ gt) (hl2 : Cond.instanceMethod y ∈ gt) (hl3 : Cond.initialized y.cls ∈ gt) (hl4 : Cond.code y bytes maxL none ∈ gt) (hy : y.name = "<init>") (hd : y.cls ≠ "java/lang/invoke/MethodHandle" ∧ y.cls ≠ "java/lang/invoke/VarHandle" ∧ (parseMethodDescriptor y.desc).map (fun d => d.parameters.length) = some n) (hsize : ls.size = nL) (hln : As.length = n) (hst : st0 = As.reverse ++ .ref b :: rest) (hW : (rest.map fun v => v.category).sum ≤ 8) (hdg : decode cc pc = .ok (.invokespecial index, 3)) (hR : d + 1 ≤ R.frames ∧ 8 + (maxL + 11) + 60 * d ≤ R.locals) (hf : cells + mc ≤ R.cells ∧ slots + ms ≤ R.slots) :
    va_Run p l e R s m args below meth c H locs cells slots mc ms (F0 m pc ls st0) rest (va_Qv (fun (_ : Nat → Nat) => True) (fun q t => va_P G.1 vwCl ([u1 q] ++ nu q).flatten t.heap ∧ va_D (va_A [u0].flatten H.size) ([u1 q] ++ nu q).flatten) (va_A [u0].flatten H.size) (Value.ref b :: As).toArray) (va_A [u0].flatten H.size) :=
  va_runI C.fix (hM.2 H.size) (cwI n C.hts (goodIn_gt hl4) rfl rfl rfl (C.hts _ hl3) (C.hts _ hl1) (C.hts _ hl2) hy hd hR) ⟨CPA.blind, fun U hU hW => ⟨rfl, (g_pre C h (is := [i]) rfl (fl_pre us i u0 hu) (av := .ref b :: As) U hU hW).2, va_AO.moved hW.alike hao⟩⟩ rfl hln hsize hst (lv_room hW) hdg hf
theorem nest_in : ∀ q ∈ nestL, Cond.methodLinkNest q.1 q.2.1 q.2.2.1 q.2.2.2 ∈ tables_1 := by decide +kernel
theorem str_in : ∀ i, i < 5 → Cond.stringRef "OneBell$Reader" (strIx.getD i 0) (strTx.getD i "") ∈ tables_1
  | 0, _ => List.mem_of_getElem? (i := 460) (by decide +kernel)
  | 1, _ => List.mem_of_getElem? (i := 523) (by decide +kernel)
  | 2, _ => List.mem_of_getElem? (i := 529) (by decide +kernel)
  | 3, _ => List.mem_of_getElem? (i := 534) (by decide +kernel)
  | 4, _ => List.mem_of_getElem? (i := 543) (by decide +kernel)
  | j + 5, h => absurd h (by omega)
theorem inv_0 : Inv (fun _ => 0, fun k => if k = 5 then 1 else 0, fun _ _ => 0) (fun _ => 0, fun _ => 0, fun _ _ => 0) (fun _ => 0) none none (fun _ => 0, fun k => if k = 5 then 1 else 0, fun _ _ => 0) (fun _ => 0) := by
  refine ⟨⟨(fun _ => 0, fun _ _ => 0), ?_, ?_, ?_⟩, Or.inl ⟨rfl, rfl⟩, Or.inl ⟨rfl, rfl⟩, ⟨0, by decide, rfl, rfl, fun k hk => absurd hk (Nat.not_lt_zero k)⟩, ⟨rfl, rfl, rfl⟩, rfl, rfl⟩
  · refine ⟨by decide, by decide, by decide, by decide, by decide, by decide, by decide, ?_, ?_, ?_, ?_⟩ <;> exact fun i hi => absurd hi (Nat.not_lt_zero i)
  · refine ⟨rfl, rfl, rfl, rfl, rfl, rfl, rfl, ?_, ?_, ?_, ?_⟩ <;> exact fun i hi => absurd hi (Nat.not_lt_zero i)
  · refine ⟨rfl, rfl, rfl, rfl, rfl, rfl, ?_, ?_, ?_, ?_⟩ <;> exact fun i hi => absurd hi (Nat.not_lt_zero i)
set_option maxRecDepth 100000 in
set_option maxHeartbeats 4000000 in
theorem whole_start {p : Program} {e : Env} {s : State} {m : MethodId} {below : List Frame} {meth : Method} {c : Code} (l : Launch) {b L : Nat} {xs : Nat → Int32} (hL : L ≤ 2560) (C0 : lw_At p s m meth c b L xs) : W p l e room_1 s m #[Value.ref b] below meth c s.heap [] 0 0 (lw_Z below #[Value.ref b] s) (entryFrame m ([Value.ref b] : List Value).toArray 4) := by
  obtain ⟨hx, hb, hr, hml, hown, hts, hX, hbl, hlocks, hgv⟩ := id C0
  have hs := flat_of_before _ hgv
  have hgt : ∀ w ∈ gt, w.before #[Value.ref b] s = true := fun w hw => hts w (List.mem_filter.mp hw).1
  have htb : ∀ w ∈ tables_1, w.before #[Value.ref b] s = true := fun w hw => hts w (List.mem_append_right _ hw)
  have hbA : ∀ a : Nat, a < s.heap.size → ¬ (fun q : Nat => s.heap.size ≤ q) a := fun a ha => Nat.not_le.mpr ha
  have key : ∀ k : Nat, ∃ (cC : ClassId) (iS : Nat → Nat), ∀ q : vw_C, vwCl[k]? = some q → u_Kn s q.1 q.2.1 q.2.2 cC iS := by
    intro k
    match k with
    | 0 => obtain ⟨cC, iS, hk⟩ := u_known hgt fc_X0.2.1 (hgt _ in_X0); exact ⟨cC, iS, fun q hq => by cases hq; exact hk⟩
    | 1 => obtain ⟨cC, iS, hk⟩ := u_known hgt fc_X1.2.1 (hgt _ in_X1); exact ⟨cC, iS, fun q hq => by cases hq; exact hk⟩
    | 2 => obtain ⟨cC, iS, hk⟩ := u_known hgt fc_X2.2.1 (hgt _ in_X2); exact ⟨cC, iS, fun q hq => by cases hq; exact hk⟩
    | 3 => obtain ⟨cC, iS, hk⟩ := u_known hgt fc_X3.2.1 (hgt _ in_X3); exact ⟨cC, iS, fun q hq => by cases hq; exact hk⟩
    | 4 => obtain ⟨cC, iS, hk⟩ := u_known hgt fc_X4.2.1 (hgt _ in_X4); exact ⟨cC, iS, fun q hq => by cases hq; exact hk⟩
    | 5 => obtain ⟨cC, iS, hk⟩ := u_known hgt fc_X5.2.1 (hgt _ in_X5); exact ⟨cC, iS, fun q hq => by cases hq; exact hk⟩
    | 6 => obtain ⟨cC, iS, hk⟩ := u_known hgt fc_X6.2.1 (hgt _ in_X6); exact ⟨cC, iS, fun q hq => by cases hq; exact hk⟩
    | 7 => obtain ⟨cC, iS, hk⟩ := u_known hgt fc_X7.2.1 (hgt _ in_X7); exact ⟨cC, iS, fun q hq => by cases hq; exact hk⟩
    | 8 => obtain ⟨cC, iS, hk⟩ := u_known hgt fc_X8.2.1 (hgt _ in_X8); exact ⟨cC, iS, fun q hq => by cases hq; exact hk⟩
    | 9 => obtain ⟨cC, iS, hk⟩ := u_known hgt fc_X9.2.1 (hgt _ in_X9); exact ⟨cC, iS, fun q hq => by cases hq; exact hk⟩
    | 10 => obtain ⟨cC, iS, hk⟩ := u_known hgt fc_X10.2.1 (hgt _ in_X10); exact ⟨cC, iS, fun q hq => by cases hq; exact hk⟩
    | 11 => obtain ⟨cC, iS, hk⟩ := u_known hgt fc_X11.2.1 (hgt _ in_X11); exact ⟨cC, iS, fun q hq => by cases hq; exact hk⟩
    | 12 => obtain ⟨cC, iS, hk⟩ := u_known hgt fc_X12.2.1 (hgt _ in_X12); exact ⟨cC, iS, fun q hq => by cases hq; exact hk⟩
    | k + 13 => exact ⟨0, fun _ => 0, fun q hq => by simp [vwCl] at hq⟩
  obtain ⟨dC, dI, hKc⟩ : ∃ (dC : Nat → ClassId) (dI : Nat → Nat → Nat), ∀ (k : Nat) (q : vw_C), vwCl[k]? = some q → u_Kn s q.1 q.2.1 q.2.2 (dC k) (dI k) := ⟨fun k => (key k).choose, fun k => (key k).choose_spec.choose, fun k => (key k).choose_spec.choose_spec⟩
  obtain ⟨cI, kI, pI, i1, i2, i3⟩ := Cond.arrayClass_spec (hgt _ ac_int)
  obtain ⟨cZ, kZ, pZ, z1, z2, z3⟩ := Cond.arrayClass_spec (hgt _ ac_bool)
  have hao : va_AO "OneBell$Village" s := va_AO.of (htb _ (List.mem_of_getElem? (i := 116) (by decide +kernel)))
  obtain ⟨pG, cG, kG, g1, g2, g3, g4, g5⟩ := Cond.arrayOver_spec hao
  obtain ⟨tF, eF, hF⟩ := va_Tof (args := #[Value.ref b]) (s := s) (tm := .static "OneBell$Day" "FACTORIAL" "[I") (ty := .int) (N := 6) (f := fun j => .int (facL.getD j 0)) (A := fun q : Nat => s.heap.size ≤ q) (by decide) (hs _ (by decide +kernel)) (va_eqt (hs _ (by decide +kernel))) (fun j hj => by
    match j, hj with
    | 0, _ => exact va_eqt (hs _ (by decide +kernel))
    | 1, _ => exact va_eqt (hs _ (by decide +kernel))
    | 2, _ => exact va_eqt (hs _ (by decide +kernel))
    | 3, _ => exact va_eqt (hs _ (by decide +kernel))
    | 4, _ => exact va_eqt (hs _ (by decide +kernel))
    | 5, _ => exact va_eqt (hs _ (by decide +kernel))
    | j + 6, hj => omega) hbA
  have hZF := va_Zref (A := fun q : Nat => s.heap.size ≤ q) (htb (.laysStatic "OneBell$Day" "FACTORIAL" "[I") (List.mem_of_getElem? (i := 833) (by decide +kernel))) (hgt _ it_X0) eF hbA
  have hZC := va_Zof (A := fun q : Nat => s.heap.size ≤ q) (htb (.laysStatic "java/lang/String" "COMPACT_STRINGS" "Z") (List.mem_of_getElem? (i := 474) (by decide +kernel))) (htb (.initialized "java/lang/String") (List.mem_of_getElem? (i := 15) (by decide +kernel))) (va_eqt (z := 1) (hs _ (by decide +kernel))) hbA
  have hZS := va_Zqof (A := fun q : Nat => s.heap.size ≤ q) (htb (.laysStatic "jdk/internal/util/Preconditions" "SIOOBE_FORMATTER" "Ljava/util/function/BiFunction;") (List.mem_of_getElem? (i := 490) (by decide +kernel))) (htb (.initialized "jdk/internal/util/Preconditions") (List.mem_of_getElem? (i := 17) (by decide +kernel))) (hs _ (by decide +kernel)) hbA
  obtain ⟨adK, adV, hSt, hSe⟩ := vk_Sof (args := #[Value.ref b]) (s := s) (N := 5) (tm := fun i => .string "OneBell$Reader" (strIx.getD i 0)) (len := strLen) (byt := strByt) (A := fun q : Nat => s.heap.size ≤ q) (fun i hi => by
    match i, hi with
    | 0, _ => decide
    | 1, _ => decide
    | 2, _ => decide
    | 3, _ => decide
    | 4, _ => decide
    | i + 5, hi => omega) (fun i hi => by
    match i, hi with
    | 0, _ => exact hs _ (by decide +kernel)
    | 1, _ => exact hs _ (by decide +kernel)
    | 2, _ => exact hs _ (by decide +kernel)
    | 3, _ => exact hs _ (by decide +kernel)
    | 4, _ => exact hs _ (by decide +kernel)
    | i + 5, hi => omega) (fun i hi => by
    match i, hi with
    | 0, _ => exact hs _ (by decide +kernel)
    | 1, _ => exact hs _ (by decide +kernel)
    | 2, _ => exact hs _ (by decide +kernel)
    | 3, _ => exact hs _ (by decide +kernel)
    | 4, _ => exact hs _ (by decide +kernel)
    | i + 5, hi => omega) (fun i hi => by
    match i, hi with
    | 0, _ => exact hs _ (by decide +kernel)
    | 1, _ => exact hs _ (by decide +kernel)
    | 2, _ => exact hs _ (by decide +kernel)
    | 3, _ => exact hs _ (by decide +kernel)
    | 4, _ => exact hs _ (by decide +kernel)
    | i + 5, hi => omega) (fun i hi => by
    match i, hi with
    | 0, _ => exact hs _ (by decide +kernel)
    | 1, _ => exact hs _ (by decide +kernel)
    | 2, _ => exact hs _ (by decide +kernel)
    | 3, _ => exact hs _ (by decide +kernel)
    | 4, _ => exact hs _ (by decide +kernel)
    | i + 5, hi => omega) (fun i hi => by
    match i, hi with
    | 0, _ => exact (fun j hj => by
      match j, hj with
      | 0, _ => exact hs _ (by decide +kernel)
      | 1, _ => exact hs _ (by decide +kernel)
      | 2, _ => exact hs _ (by decide +kernel)
      | 3, _ => exact hs _ (by decide +kernel)
      | 4, _ => exact hs _ (by decide +kernel)
      | j + 5, hj => exact absurd hj (by simp [strLen]))
    | 1, _ => exact (fun j hj => by
      match j, hj with
      | 0, _ => exact hs _ (by decide +kernel)
      | 1, _ => exact hs _ (by decide +kernel)
      | 2, _ => exact hs _ (by decide +kernel)
      | j + 3, hj => exact absurd hj (by simp [strLen]))
    | 2, _ => exact (fun j hj => by
      match j, hj with
      | 0, _ => exact hs _ (by decide +kernel)
      | 1, _ => exact hs _ (by decide +kernel)
      | 2, _ => exact hs _ (by decide +kernel)
      | 3, _ => exact hs _ (by decide +kernel)
      | j + 4, hj => exact absurd hj (by simp [strLen]))
    | 3, _ => exact (fun j hj => by
      match j, hj with
      | 0, _ => exact hs _ (by decide +kernel)
      | 1, _ => exact hs _ (by decide +kernel)
      | 2, _ => exact hs _ (by decide +kernel)
      | 3, _ => exact hs _ (by decide +kernel)
      | 4, _ => exact hs _ (by decide +kernel)
      | 5, _ => exact hs _ (by decide +kernel)
      | j + 6, hj => exact absurd hj (by simp [strLen]))
    | 4, _ => exact (fun j hj => by
      match j, hj with
      | 0, _ => exact hs _ (by decide +kernel)
      | 1, _ => exact hs _ (by decide +kernel)
      | 2, _ => exact hs _ (by decide +kernel)
      | 3, _ => exact hs _ (by decide +kernel)
      | j + 4, hj => exact absurd hj (by simp [strLen]))
    | i + 5, hi => omega) (fun i j hi hj hij => by
    match i, j, hi, hj with
    | 0, 0, _, _ => exact absurd rfl hij
    | 0, 1, _, _ => exact Or.inl (hs _ (by decide +kernel))
    | 0, 2, _, _ => exact Or.inl (hs _ (by decide +kernel))
    | 0, 3, _, _ => exact Or.inl (hs _ (by decide +kernel))
    | 0, 4, _, _ => exact Or.inl (hs _ (by decide +kernel))
    | 1, 0, _, _ => exact Or.inr (hs _ (by decide +kernel))
    | 1, 1, _, _ => exact absurd rfl hij
    | 1, 2, _, _ => exact Or.inl (hs _ (by decide +kernel))
    | 1, 3, _, _ => exact Or.inl (hs _ (by decide +kernel))
    | 1, 4, _, _ => exact Or.inl (hs _ (by decide +kernel))
    | 2, 0, _, _ => exact Or.inr (hs _ (by decide +kernel))
    | 2, 1, _, _ => exact Or.inr (hs _ (by decide +kernel))
    | 2, 2, _, _ => exact absurd rfl hij
    | 2, 3, _, _ => exact Or.inl (hs _ (by decide +kernel))
    | 2, 4, _, _ => exact Or.inl (hs _ (by decide +kernel))
    | 3, 0, _, _ => exact Or.inr (hs _ (by decide +kernel))
    | 3, 1, _, _ => exact Or.inr (hs _ (by decide +kernel))
    | 3, 2, _, _ => exact Or.inr (hs _ (by decide +kernel))
    | 3, 3, _, _ => exact absurd rfl hij
    | 3, 4, _, _ => exact Or.inl (hs _ (by decide +kernel))
    | 4, 0, _, _ => exact Or.inr (hs _ (by decide +kernel))
    | 4, 1, _, _ => exact Or.inr (hs _ (by decide +kernel))
    | 4, 2, _, _ => exact Or.inr (hs _ (by decide +kernel))
    | 4, 3, _, _ => exact Or.inr (hs _ (by decide +kernel))
    | 4, 4, _, _ => exact absurd rfl hij
    | i + 5, _, hi, _ => omega
    | _, j + 5, _, hj => omega) hbA
  obtain ⟨G, hGe⟩ : ∃ G : GG, G = ((dC, dI), (fun k => if k = 0 then cI else if k = 1 then cZ else cG), (fun k => if k = 0 then tF else if k < 20 then adK (k - 10) else adV (k - 20))) := ⟨_, rfl⟩
  have hAd : (fun i => G.2.2 (10 + i)) = fun i => if i = 0 then adK 0 else G.2.2 (10 + i) := by
    funext i
    by_cases hi : i = 0
    · subst hi; rw [hGe]; rfl
    · rw [if_neg hi]
  have hK : va_K G.1 vwCl (tys3 G.2.1) s := by
    rw [hGe]
    refine ⟨hKc, fun k q hq => ?_⟩
    match k, hq with
    | 0, hq => cases hq; exact ⟨fun N z => ⟨(fun k h => by cases h), kI, i2, pI, i3⟩, i1⟩
    | 1, hq => cases hq; exact ⟨fun N z => ⟨(fun k h => by cases h), kZ, z2, pZ, z3⟩, z1⟩
    | 2, hq => cases hq; exact ⟨fun N z => ⟨(fun k h => by cases h), kG, g3, pG, g4⟩, kG, pG, g3, g4, g1, g5⟩
    | k + 3, hq => simp [tys3] at hq
  have eK : ∀ i, i < 5 → G.2.2 (10 + i) = adK i := fun i hi => by
    rw [hGe]
    show (if 10 + i = 0 then tF else if 10 + i < 20 then adK (10 + i - 10) else adV (10 + i - 20)) = adK i
    rw [if_neg (by omega), if_pos (by omega), Nat.add_sub_cancel_left]
  have eV : ∀ i, i < 5 → G.2.2 (20 + i) = adV i := fun i hi => by
    rw [hGe]
    show (if 20 + i = 0 then tF else if 20 + i < 20 then adK (20 + i - 10) else adV (20 + i - 20)) = adV i
    rw [if_neg (by omega), if_neg (by omega), Nat.add_sub_cancel_left]
  have e0 : G.2.2 0 = tF := by rw [hGe]; rfl
  have hEV : EV G s := ⟨hK, fun q hq => va_Nw.of rfl (htb _ (nest_in q hq)), fun i hi => by rw [eK i hi]; exact vk_R.of (htb _ (str_in i hi)) (hSe i hi)⟩
  have hSt2 : vk_S 5 strLen strByt (fun i => G.2.2 (10 + i)) (fun i => G.2.2 (20 + i)) (fun q : Nat => s.heap.size ≤ q) s s.heap := by
    refine ⟨fun i hi => ?_, fun i j hi hj e => ?_⟩
    · show va_O _ (G.2.2 (10 + i)) _ _ _ ∧ va_OF _ _ _ _ (G.2.2 (10 + i)) _ _ _ ∧ va_OF _ _ _ (.ref (G.2.2 (20 + i))) (G.2.2 (10 + i)) _ _ _ ∧ va_T _ (G.2.2 (20 + i)) _ _ _ _ _
      rw [eK i hi, eV i hi]
      exact hSt.1 i hi
    · have e : G.2.2 (10 + i) = G.2.2 (10 + j) := e
      rw [eK i hi, eK j hj] at e
      exact hSt.2 i j hi hj e
  have hSX : SX G (fun q : Nat => s.heap.size ≤ q) s s.heap := ⟨by rw [e0]; exact hZF, by rw [e0]; exact hF, hSt2, hZC, hZS⟩
  have C : MC RL code 4 ret G (fun q : Nat => s.heap.size ≤ q) p s m #[Value.ref b] meth c := ⟨hx, hb, hr, hml, hown, hgt, hEV, hSX, fun q h => h, hlocks⟩
  have h : HP G (fun q : Nat => s.heap.size ≤ q) s [] s.heap [] := ⟨fun k q h => by simp at h, ⟨fun i j p q h => by simp at h, fun k q h => by simp at h⟩, va_S.rf⟩
  have hl := lv_entry ([.ref b]) (n := 4) (Nat.le_of_ble_eq_true rfl)
  rw [lg_entry_eq]
  generalize (lg_sl ([.ref b]) ++ List.replicate (4 - (lg_sl ([.ref b])).length) Slot.unset).toArray = ls at hl ⊢
  have hl : lv_has ls 4 [(0, .ref b)] := hl
  refine g_new C h fc_X11 cl_L_7 in_X11 it_X11 (fs := [.null, .null, .null, .int 0, .long 0, .long 0, .int 0, .int 0, .int 0, .null, .null, .null, .null]) (fun j hj => df_X11 j hj) (Nat.le_of_ble_eq_true rfl) (Nat.le_of_ble_eq_true rfl) dL_law_0 (fun ox H h => ?_)
  refine lv_dup C.hx C.hb dL_law_3 rfl ?_
  have zm1 := c_X11_init l G ox
  refine g_goK C h zm1.1 (i := 0) rfl (g_runIA hao C h (i := 0) (n := 0) rfl zm1 (As := []) (rest := [.ref ox]) mi_L_9 im_X11_init it_X11 cd_X11_init rfl (by decide +kernel) hl.1 rfl rfl (Nat.le_of_ble_eq_true rfl) dL_law_4 ⟨Nat.le_of_ble_eq_true rfl, Nat.le_of_ble_eq_true rfl⟩ ⟨Nat.le_of_ble_eq_true rfl, Nat.le_of_ble_eq_true rfl⟩) (fun q H locs h => ?_)
  refine lv_astore_n (lv' := [(1, .ref ox), (0, .ref b)]) C.hx C.hb dL_law_7 rfl hl (by decide) rfl (fun ls hl => ?_)
  refine g_new C h fc_X12 cl_L_10 in_X12 it_X12 (fs := [.null, .null, .null, .null, .long 0, .long 0, .null, .int 0, .int 0, .int 0, .int 0, .int 0, .null, .null, .int 0, .null, .null, .int 0, .int 0, .int 0, .int 0, .int 0, .null, .null]) (fun j hj => df_X12 j hj) (Nat.le_of_ble_eq_true rfl) (Nat.le_of_ble_eq_true rfl) dL_law_8 (fun om H h => ?_)
  refine lv_dup C.hx C.hb dL_law_11 rfl ?_
  have zm2 := c_X12_init l G om
  refine g_goK C h zm2.1 (i := 55) rfl (g_runI C h (i := 55) (n := 0) rfl zm2 (As := []) (rest := [.ref om]) mi_L_12 im_X12_init it_X12 cd_X12_init rfl (by decide +kernel) hl.1 rfl rfl (Nat.le_of_ble_eq_true rfl) dL_law_12 ⟨Nat.le_of_ble_eq_true rfl, Nat.le_of_ble_eq_true rfl⟩ ⟨Nat.le_of_ble_eq_true rfl, Nat.le_of_ble_eq_true rfl⟩) (fun qm H locs h => ?_)
  refine lv_astore_n (lv' := [(2, .ref om), (1, .ref ox), (0, .ref b)]) C.hx C.hb dL_law_15 rfl hl (by decide) rfl (fun ls hl => ?_)
  refine lv_iconst (v := 0) C.hx C.hb dL_law_16 (by decide) ?_
  refine lv_istore_n (lv' := [(3, .int 0), (2, .ref om), (1, .ref ox), (0, .ref b)]) C.hx C.hb dL_law_17 rfl hl (by decide) rfl (fun ls hl => ?_)
  obtain ⟨ax, e_ax⟩ : ∃ x : Nat → Nat, x = (fun j => if j = 0 then q 0 else if j = 1 then q 11 else if j = 2 then q 12 else if j = 9 then q 19 else if j = 10 then q 20 else if j = 11 then q 33 else if j = 12 then q 40 else 0) := ⟨_, rfl⟩
  obtain ⟨an, e_an⟩ : ∃ x : Nat → Nat, x = (fun j => if j = 1 then q 1 else if j = 2 then q 2 else if j = 3 then q 3 else if j = 4 then q 4 else if j = 9 then q 5 else if j = 10 then q 6 else if j = 12 then q 7 else if j = 13 then q 8 else if j = 14 then q 9 else if j = 16 then q 10 else 0) := ⟨_, rfl⟩
  obtain ⟨akd, e_akd⟩ : ∃ x : Nat → Nat, x = (fun j => if j = 0 then q 14 else if j = 1 then q 15 else if j = 2 then q 16 else if j = 3 then q 17 else if j = 4 then q 18 else 0) := ⟨_, rfl⟩
  obtain ⟨ad, e_ad⟩ : ∃ x : Nat → Nat, x = (fun j => if j = 0 then q 21 else if j = 2 then q 22 else if j = 3 then q 23 else if j = 4 then q 24 else if j = 6 then q 25 else if j = 7 then q 26 else if j = 8 then q 27 else if j = 9 then q 28 else if j = 10 then q 29 else if j = 11 then q 30 else if j = 12 then q 31 else if j = 15 then q 32 else 0) := ⟨_, rfl⟩
  obtain ⟨asr, e_asr⟩ : ∃ x : Nat → Nat, x = (fun j => if j = 0 then q 13 else if j = 3 then q 34 else if j = 4 then q 35 else if j = 5 then q 36 else if j = 6 then q 37 else if j = 7 then q 38 else if j = 8 then q 39 else 0) := ⟨_, rfl⟩
  obtain ⟨ar, e_ar⟩ : ∃ x : Nat → Nat, x = (fun j => if j = 0 then q 41 else if j = 3 then q 52 else if j = 8 then q 53 else 0) := ⟨_, rfl⟩
  obtain ⟨adr, e_adr⟩ : ∃ x : Nat → Nat, x = (fun j => if j = 1 then q 42 else if j = 2 then q 43 else if j = 3 then q 44 else if j = 4 then q 45 else if j = 9 then q 46 else if j = 10 then q 47 else if j = 12 then q 48 else if j = 13 then q 49 else if j = 14 then q 50 else if j = 16 then q 51 else 0) := ⟨_, rfl⟩
  obtain ⟨am, e_am⟩ : ∃ x : Nat → Nat, x = (fun j => if j = 0 then qm 0 else if j = 1 then qm 1 else if j = 2 then qm 2 else if j = 3 then qm 3 else if j = 6 then qm 4 else if j = 12 then qm 5 else if j = 13 then qm 6 else if j = 15 then qm 7 else if j = 16 then qm 8 else if j = 22 then qm 9 else if j = 23 then qm 10 else 0) := ⟨_, rfl⟩
  obtain ⟨ok, e_ok⟩ : ∃ x : Nat, x = q 13 := ⟨_, rfl⟩
  obtain ⟨t3, e_t3⟩ : ∃ x : Nat, x = q 52 := ⟨_, rfl⟩
  obtain ⟨vob, e_vob⟩ : ∃ x : US, x = (fun _ => 0, fun k => if k = 5 then 1 else 0, fun _ _ => 0) := ⟨_, rfl⟩
  obtain ⟨vn, e_vn⟩ : ∃ x : US, x = (fun _ => 0, fun _ => 0, fun _ _ => 0) := ⟨_, rfl⟩
  obtain ⟨vsw, e_vsw⟩ : ∃ x : US, x = (fun k => if k = 1 then (-1) else if k = 3 then (-1) else 0, fun _ => 0, fun _ _ => 0) := ⟨_, rfl⟩
  obtain ⟨vds, e_vds⟩ : ∃ x : US, x = (fun k => if k = 1 then (-1) else if k = 3 then (-1) else 0, fun _ => 0, fun _ _ => 0) := ⟨_, rfl⟩
  obtain ⟨vd, e_vd⟩ : ∃ x : US, x = (fun k => if k = 14 then 1 else 0, fun _ => 0, fun _ _ => 0) := ⟨_, rfl⟩
  obtain ⟨vse, e_vse⟩ : ∃ x : US, x = (fun _ => 0, fun _ => 0, fun _ _ => 0) := ⟨_, rfl⟩
  obtain ⟨vr, e_vr⟩ : ∃ x : US, x = (fun _ => 0, fun _ => 0, fun _ _ => 0) := ⟨_, rfl⟩
  obtain ⟨vdr, e_vdr⟩ : ∃ x : US, x = (fun _ => 0, fun _ => 0, fun _ _ => 0) := ⟨_, rfl⟩
  obtain ⟨vm, e_vm⟩ : ∃ x : US, x = (fun _ => 0, fun k => if k = 5 then 1 else 0, fun _ _ => 0) := ⟨_, rfl⟩
  have h : HP G (fun q : Nat => s.heap.size ≤ q) s [uX11 G ox ax vob, uX9 G (ax 0) an vn, uG G (ax 1) (fun _ => none), uA G 200 (ax 2) (fun _ => 0), uX8 G (ax 9) (fun _ => ok) vsw, uX2 G ok akd, uX8 G (ad 0) (fun _ => ok) vds, uX0 G (ax 10) ad vd, uX6 G (ax 11) (upn asr 0 ok) vse, uX5 G (ax 12) (upn ar 3 t3) vr, uX9 G (ar 0) adr vdr, imU G none, imU G none, uX12 G om am vm, uA G 63 (am 0) (fun _ => 0), uA G 52 (am 22) (fun _ => 0)] H locs := by
    subst e_ax e_an e_akd e_ad e_asr e_ar e_adr e_am e_vob e_vn e_vsw e_vds e_vd e_vse e_vr e_vdr e_vm e_ok e_t3
    exact ⟨h.1.sub [0, 1, 2, 3, 4, 5, 6, 7, 8, 9, 10, 11, 12, 13, 20, 14, 15, 16, 17, 18, 19, 22, 21, 23, 24, 25, 26, 27, 28, 29, 30, 31, 32, 33, 34, 35, 36, 37, 38, 39, 40, 41, 54, 42, 43, 44, 45, 46, 47, 48, 49, 50, 51, 52, 55, 57, 58, 59, 60, 61, 62, 63, 64, 66, 56, 65] rfl, h.2.1.sub [0, 1, 2, 3, 4, 5, 6, 7, 8, 9, 10, 11, 12, 13, 20, 14, 15, 16, 17, 18, 19, 22, 21, 23, 24, 25, 26, 27, 28, 29, 30, 31, 32, 33, 34, 35, 36, 37, 38, 39, 40, 41, 54, 42, 43, 44, 45, 46, 47, 48, 49, 50, 51, 52, 55, 57, 58, 59, 60, 61, 62, 63, 64, 66, 56, 65] (by decide) rfl, h.2.2⟩
  have hI : Inv vob vn (fun _ => 0) ((none : Option (Nat × (Nat → Nat) × US)).map fun q => q.2.2) ((none : Option (Nat × (Nat → Nat) × US)).map fun q => q.2.2) vm (fun _ => 0) := by
    rw [e_vob, e_vn, e_vm]
    exact inv_0
  exact law_loop (N := 200000) (Nat.le_refl _) hL C hX hbl 513 0 (im0 := none) (im1 := none) (Nat.zero_le L) (by omega) nI_0.symm (by decide) (by decide) hI ⟨rfl, rfl⟩ h (lv_sub hl [3, 2, 1, 0] rfl)
