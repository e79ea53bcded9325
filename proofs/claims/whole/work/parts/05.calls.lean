/-! calls by units -/
section KCALL
variable {own : String} {cc : ByteArray} {nL : Nat} {rt : Option FieldType} {G : GG} {A : Nat → Prop} {p : Program} {l : Launch} {e : Env} {R : Room} {s : State} {m : MethodId} {args : Array Value} {below : List Frame} {meth : Method} {c : Code} {H : Heap} {locs : List Loc} {cells slots : Nat} {Q : State → Prop} {pc : Nat} {ls : Array Slot} {rest st0 : List Value} {us us2 uc uc' : List va_W} {is : List Nat} {a : Array Value}
theorem g_pre (C : MC own cc nL rt G A p s m args meth c) (h : HP G A s us H locs) (hn : va_nd is = true) (hC : is.map (fun i => us[i]?) = uc.map some) {av : List Value} : ∀ U : State, U.heap = H → s.WarmedH U.vm → va_Pc av (CP G uc H.size) av.toArray U := by
  intro U hU hW
  refine ⟨rfl, by rw [hU], at_H hU (h.1.us hC), C.ev.warm hW, ?_, (h.2.1.us hn hC).weaken (fun _ _ _ _ => trivial)⟩
  rw [hU]
  exact C.sx.to h.2.2 (us_free h.2.1 h.2.2 C.hA hC) hW.alike
theorem g_next (C : MC own cc nL rt G A p s m args meth c) (h : HP G A s us H locs) (hn : va_nd is = true) (hC : is.map (fun i => us[i]?) = uc.map some) (hm : fsts uc' = fsts uc) (hus : rpU us is uc' = us2) {t : State} {H1 : Heap} {locs1 : List Loc} (ht : t.heap = H1) (hB : va_P G.1 vwCl uc'.flatten t.heap) (hk : ∀ q : Nat, q < H.size → ¬ va_A uc.flatten H.size q → H1[q]? = H[q]?) (hS : va_S A s.heap H1 locs1) : HP G A s us2 H1 locs1 := by
  subst hus
  have hj := us_join h.1 h.2.1 hn hC hm hk (by rw [← ht]; exact hB)
  exact ⟨hj.1, hj.2, hS⟩
theorem g_goI (C : MC own cc nL rt G A p s m args meth c) (h : HP G A s us H locs) {r : Int32} (hm : fsts uc' = fsts uc) (hn : va_nd is = true) (hC : is.map (fun i => us[i]?) = uc.map some) (hrun : va_Run p l e R s m args below meth c H locs cells slots 0 0 (F0 m pc ls st0) rest (va_Qi (fun x (_ : Unit) => x = r) (fun _ t => va_P G.1 vwCl uc'.flatten t.heap) (va_A uc.flatten H.size) a) (va_A uc.flatten H.size)) (hus : rpU us is uc' = us2)
    (kk : ∀ (H1 : Heap) (locs1 : List Loc), HP G A s us2 H1 locs1 → W p l e R s m args below meth c H1 locs1 cells slots Q (F0 m (pc + 3) ls (.int r :: rest))) : W p l e R s m args below meth c H locs cells slots Q (F0 m pc ls st0) := by
  refine va_calli hrun h.2.2 (fun q _ hq => us_free h.2.1 h.2.2 C.hA hC q hq) (us_free h.2.1 h.2.2 C.hA hC) (fun x u t H1 locs1 ht hvm hp hB hz hk hS => ?_)
  subst hp
  exact kk H1 locs1 (g_next C h hn hC hm hus ht hB hk hS)
theorem g_goL (C : MC own cc nL rt G A p s m args meth c) (h : HP G A s us H locs) {r : Int64} (hm : fsts uc' = fsts uc) (hn : va_nd is = true) (hC : is.map (fun i => us[i]?) = uc.map some) (hrun : va_Run p l e R s m args below meth c H locs cells slots 0 0 (F0 m pc ls st0) rest (va_Ql (fun x (_ : Unit) => x = r) (fun _ t => va_P G.1 vwCl uc'.flatten t.heap) (va_A uc.flatten H.size) a) (va_A uc.flatten H.size)) (hus : rpU us is uc' = us2)
    (kk : ∀ (H1 : Heap) (locs1 : List Loc), HP G A s us2 H1 locs1 → W p l e R s m args below meth c H1 locs1 cells slots Q (F0 m (pc + 3) ls (.long r :: rest))) : W p l e R s m args below meth c H locs cells slots Q (F0 m pc ls st0) := by
  refine va_calll hrun h.2.2 (fun q _ hq => us_free h.2.1 h.2.2 C.hA hC q hq) (us_free h.2.1 h.2.2 C.hA hC) (fun x u t H1 locs1 ht hvm hp hB hz hk hS => ?_)
  subst hp
  exact kk H1 locs1 (g_next C h hn hC hm hus ht hB hk hS)
theorem g_goV (C : MC own cc nL rt G A p s m args meth c) (h : HP G A s us H locs) (hm : fsts uc' = fsts uc) (hn : va_nd is = true) (hC : is.map (fun i => us[i]?) = uc.map some) (hrun : va_Run p l e R s m args below meth c H locs cells slots 0 0 (F0 m pc ls st0) rest (va_Qv (fun (_ : Unit) => True) (fun _ t => va_P G.1 vwCl uc'.flatten t.heap) (va_A uc.flatten H.size) a) (va_A uc.flatten H.size)) (hus : rpU us is uc' = us2)
    (kk : ∀ (H1 : Heap) (locs1 : List Loc), HP G A s us2 H1 locs1 → W p l e R s m args below meth c H1 locs1 cells slots Q (F0 m (pc + 3) ls rest)) : W p l e R s m args below meth c H locs cells slots Q (F0 m pc ls st0) := by
  refine va_callv hrun h.2.2 (fun q _ hq => us_free h.2.1 h.2.2 C.hA hC q hq) (us_free h.2.1 h.2.2 C.hA hC) (fun u t H1 locs1 ht hvm hp hB hz hk hS => ?_)
  exact kk H1 locs1 (g_next C h hn hC hm hus ht hB hk hS)
theorem g_goR (C : MC own cc nL rt G A p s m args meth c) (h : HP G A s us H locs) {r : Nat} (hm : fsts uc' = fsts uc) (hn : va_nd is = true) (hC : is.map (fun i => us[i]?) = uc.map some) (hrun : va_Run p l e R s m args below meth c H locs cells slots 0 0 (F0 m pc ls st0) rest (va_Qr (fun (_ : Unit) => True) (fun _ a t => a = r ∧ va_P G.1 vwCl uc'.flatten t.heap) (va_A uc.flatten H.size) a) (va_A uc.flatten H.size)) (hus : rpU us is uc' = us2)
    (kk : ∀ (H1 : Heap) (locs1 : List Loc), HP G A s us2 H1 locs1 → W p l e R s m args below meth c H1 locs1 cells slots Q (F0 m (pc + 3) ls (.ref r :: rest))) : W p l e R s m args below meth c H locs cells slots Q (F0 m pc ls st0) := by
  refine va_callr hrun h.2.2 (fun q _ hq => us_free h.2.1 h.2.2 C.hA hC q hq) (us_free h.2.1 h.2.2 C.hA hC) (fun u ra t H1 locs1 ht hvm hp hB hz hk hS => ?_)
  obtain ⟨rfl, hB⟩ := hB
  exact kk H1 locs1 (g_next C h hn hC hm hus ht hB hk hS)
/-- what the tables say of a call: virtual, static in its own class, static of a nest mate, super -/
def VF (own : String) (index : Nat) (ci : Nat) (y : MethodName) (bytes : ByteArray) (maxL : Nat) (ret : Option FieldType) (n : Nat) : Prop := ∃ (T : u_T) (N : Nat), vwCl[ci]? = some (y.cls, T, N) ∧ (y.cls ≠ "java/lang/invoke/MethodHandle" ∧ y.cls ≠ "java/lang/invoke/VarHandle" ∧ (parseMethodDescriptor y.desc).map (fun d => d.parameters.length) = some n) ∧ GoodIn gt (wsV own index y.cls y (wdm y bytes maxL ret))
def SF (own : String) (index : Nat) (y : MethodName) (bytes : ByteArray) (maxL : Nat) (ret : Option FieldType) (n : Nat) : Prop := (y.cls = own ∧ y.cls ≠ "java/lang/invoke/MethodHandle" ∧ y.cls ≠ "java/lang/invoke/VarHandle" ∧ (parseMethodDescriptor y.desc).map (fun d => d.parameters.length) = some n) ∧ GoodIn gt (wsS own index y (wdm y bytes maxL ret))
def NF (own : String) (index : Nat) (y : MethodName) (bytes : ByteArray) (maxL : Nat) (ret : Option FieldType) (n : Nat) : Prop := (own, index, y, "OneBell") ∈ nestL ∧ Cond.static y ∈ gt ∧ Cond.initialized y.cls ∈ gt ∧ (y.cls ≠ "java/lang/invoke/MethodHandle" ∧ y.cls ≠ "java/lang/invoke/VarHandle" ∧ (parseMethodDescriptor y.desc).map (fun d => d.parameters.length) = some n) ∧ GoodIn gt (wdm y bytes maxL ret)
variable {y : MethodName} {bytes : ByteArray} {maxL index n ci d dd b : Nat} {ret : Option FieldType} {As : List Value} {Qc : Array Value → State → Outcome → State → Prop} {free : Addr → Prop}
theorem g_runV (C : MC own cc nL rt G A p s m args meth c) (h : HP G A s us H locs) (hn : va_nd is = true) (hC : is.map (fun i => us[i]?) = uc.map some) (hM : Met l y (wdm y bytes maxL ret) (rmm d) (va_Pc (.ref b :: As) (CP G uc H.size)) Qc 0 0 free) (vf : VF own index ci y bytes maxL ret n) (i j : Nat) {u : va_W} (hu : us[i]? = some u) {fs : List Value} (hc : u[j]? = some (b, .inr (ci, fs))) (hsize : ls.size = nL) (hln : As.length = n) (hst : st0 = As.reverse ++ .ref b :: rest) (hW : (rest.map fun v => v.category).sum ≤ 8) (hdg : decode cc pc = .ok (.invokevirtual index, 3)) (hR : d + 1 ≤ R.frames ∧ 8 + (maxL + 11) + 60 * d ≤ R.locals) (hf : cells ≤ R.cells ∧ slots ≤ R.slots) :
    va_Run p l e R s m args below meth c H locs cells slots 0 0 (F0 m pc ls st0) rest (Qc (Value.ref b :: As).toArray) free := by
  obtain ⟨T, N, f1, f2, f3⟩ := vf
  obtain ⟨q0, hq, -⟩ := fl_at us i j u _ hu hc
  exact va_runV C.fix hM (cwV n C.hts f3 rfl rfl rfl ⟨rfl, f2⟩ hR) ⟨CP.blind, va_recv C.hK h.1 f1 hq, g_pre C h hn hC⟩ rfl hln hsize hst (lv_room hW) hdg hf
theorem g_runS (C : MC own cc nL rt G A p s m args meth c) (h : HP G A s us H locs) (hn : va_nd is = true) (hC : is.map (fun i => us[i]?) = uc.map some) (hM : Met l y (wdm y bytes maxL ret) (rmm d) (va_Pc As (CP G uc H.size)) Qc 0 0 free) (sf : SF own index y bytes maxL ret n) (hsize : ls.size = nL) (hln : As.length = n) (hst : st0 = As.reverse ++ rest) (hW : (rest.map fun v => v.category).sum ≤ 8) (hdg : decode cc pc = .ok (.invokestatic index, 3)) (hR : d + 1 ≤ R.frames ∧ 8 + (maxL + 11) + 60 * d ≤ R.locals) (hf : cells ≤ R.cells ∧ slots ≤ R.slots) :
    va_Run p l e R s m args below meth c H locs cells slots 0 0 (F0 m pc ls st0) rest (Qc As.toArray) free :=
  va_runS C.fix hM (cwS n C.hts sf.2 rfl rfl rfl sf.1 hR) ⟨CP.blind, g_pre C h hn hC⟩ rfl hln hsize hst (lv_room hW) hdg hf
theorem g_runN (C : MC own cc nL rt G A p s m args meth c) (h : HP G A s us H locs) (hn : va_nd is = true) (hC : is.map (fun i => us[i]?) = uc.map some) (hM : Met l y (wdm y bytes maxL ret) (rmm d) (va_Pc As (CP G uc H.size)) Qc 0 0 free) (nf : NF own index y bytes maxL ret n) (hsize : ls.size = nL) (hln : As.length = n) (hst : st0 = As.reverse ++ rest) (hW : (rest.map fun v => v.category).sum ≤ 8) (hdg : decode cc pc = .ok (.invokestatic index, 3)) (hR : d + 1 ≤ R.frames ∧ 8 + (maxL + 11) + 60 * d ≤ R.locals) (hf : cells ≤ R.cells ∧ slots ≤ R.slots) :
    va_Run p l e R s m args below meth c H locs cells slots 0 0 (F0 m pc ls st0) rest (Qc As.toArray) free :=
  va_runSN C.fix hM ⟨va_cnB n C.hts nf.2.2.2.2 rfl rfl rfl (C.ev.2.1 _ nf.1) (C.hts _ nf.2.2.1) nf.2.2.2.1 hR, C.hts _ nf.2.1, trivial⟩ ⟨CP.blind, g_pre C h hn hC⟩ rfl hln hsize hst (lv_room hW) hdg hf
end KCALL
theorem VF.mk {own : String} {index ci : Nat} {y : MethodName} {bytes : ByteArray} {maxL : Nat} {ret : Option FieldType} {n : Nat} {T : u_T} {N : Nat} (h0 : vwCl[ci]? = some (y.cls, T, N)) (hd : y.cls ≠ "java/lang/invoke/MethodHandle" ∧ y.cls ≠ "java/lang/invoke/VarHandle" ∧ (parseMethodDescriptor y.desc).map (fun d => d.parameters.length) = some n) (h1 : Cond.methodLink own index y ∈ gt) (h2 : Cond.instanceMethod y ∈ gt) (h3 : Cond.selects y.cls y y ∈ gt) (h4 : Cond.initialized y.cls ∈ gt) (h5 : Cond.code y bytes maxL ret ∈ gt) : VF own index ci y bytes maxL ret n :=
  ⟨T, N, h0, hd, goodIn_gtA (fun z hz => by
    simp only [List.mem_cons, List.not_mem_nil, or_false] at hz
    rcases hz with rfl | rfl | rfl | rfl <;> assumption) h5⟩
theorem SF.mk {own : String} {index : Nat} {y : MethodName} {bytes : ByteArray} {maxL : Nat} {ret : Option FieldType} {n : Nat} (hd : y.cls = own ∧ y.cls ≠ "java/lang/invoke/MethodHandle" ∧ y.cls ≠ "java/lang/invoke/VarHandle" ∧ (parseMethodDescriptor y.desc).map (fun d => d.parameters.length) = some n) (h1 : Cond.methodLink own index y ∈ gt) (h2 : Cond.static y ∈ gt) (h4 : Cond.initialized own ∈ gt) (h5 : Cond.code y bytes maxL ret ∈ gt) : SF own index y bytes maxL ret n :=
  ⟨hd, goodIn_gtA (fun z hz => by
    simp only [List.mem_cons, List.not_mem_nil, or_false] at hz
    rcases hz with rfl | rfl | rfl <;> assumption) h5⟩
