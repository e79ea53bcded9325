/-! the tables' good words; what holds all along (classes, nest links, string constants, statics); a method's context, its world, its contract -/
def gt : List Cond := lw_tbl.filter goodWord
theorem gt_of {w : Cond} (i : Nat) (h : tables_1[i]? = some w) (hg : goodWord w = true) : w ∈ gt := List.mem_filter.mpr ⟨List.mem_append_right _ (List.mem_of_getElem? h), hg⟩
theorem gt_sel {w : Cond} (i : Nat) (h : (k2_sels lw_privs)[i]? = some w) (hg : goodWord w = true) : w ∈ gt := List.mem_filter.mpr ⟨List.mem_append_left _ (List.mem_of_getElem? h), hg⟩
theorem gt_good {w : Cond} (h : w ∈ gt) : w ∈ gt ∧ ((w.onTables && w.keeps) = true ∨ ∃ ty, w = .arrayClass ty) := ⟨h, good_of_word (List.mem_filter.mp h).2⟩
theorem goodIn_gt {w : Cond} (h : w ∈ gt) : GoodIn gt (w :: gt) := fun z hz => gt_good ((List.mem_cons.mp hz).elim (fun e => e ▸ h) id)
theorem goodIn_gtA {pre : List Cond} {w : Cond} (hp : ∀ z ∈ pre, z ∈ gt) (h : w ∈ gt) : GoodIn gt (pre ++ (w :: gt)) := fun z hz => (List.mem_append.mp hz).elim (fun a => gt_good (hp z a)) (fun b => goodIn_gt h z b)
abbrev GG : Type := va_G × (Nat → ClassId) × (Nat → Nat)
def tys3 (K : Nat → ClassId) : List (ClassId × FieldType) := [(K 0, .int), (K 1, .boolean), (K 2, .object "OneBell$Village")]
def strIx : List Nat := [63, 72, 77, 82, 87]
def strTx : List String := ["thing", "cut", "damp", "errand", "rule"]
def strLen : List Nat := [5, 3, 4, 6, 4]
def strByt : List (List Int32) := [[116, 104, 105, 110, 103], [99, 117, 116], [100, 97, 109, 112], [101, 114, 114, 97, 110, 100], [114, 117, 108, 101]]
def facL : List Int32 := [1, 1, 2, 6, 24, 120]
def nestL : List (String × Nat × MethodName × String) := [("OneBell", 11, { cls := "OneBell$Village", name := "<init>", desc := "()V" }, "OneBell"), ("OneBell", 46, { cls := "OneBell$Kinds", name := "<init>", desc := "()V" }, "OneBell"), ("OneBell$Kinds", 9, { cls := "OneBell$Door", name := "<init>", desc := "()V" }, "OneBell"), ("OneBell$Kinds", 18, { cls := "OneBell$Latch", name := "<init>", desc := "()V" }, "OneBell"), ("OneBell$Latch", 1, { cls := "OneBell$Door", name := "<init>", desc := "()V" }, "OneBell"), ("OneBell$Kinds", 25, { cls := "OneBell$Lid", name := "<init>", desc := "()V" }, "OneBell"), ("OneBell$Lid", 1, { cls := "OneBell$Door", name := "<init>", desc := "()V" }, "OneBell"), ("OneBell$Kinds", 32, { cls := "OneBell$Wheel", name := "<init>", desc := "()V" }, "OneBell"), ("OneBell$Wheel", 1, { cls := "OneBell$Latch", name := "<init>", desc := "()V" }, "OneBell"), ("OneBell$Kinds", 39, { cls := "OneBell$Sluice", name := "<init>", desc := "()V" }, "OneBell"), ("OneBell$Sluice", 1, { cls := "OneBell$Latch", name := "<init>", desc := "()V" }, "OneBell"), ("OneBell", 74, { cls := "OneBell$Reader", name := "<init>", desc := "()V" }, "OneBell"), ("OneBell$Reader", 11, { cls := "OneBell$Village", name := "<init>", desc := "()V" }, "OneBell"), ("OneBell$Village", 70, { cls := "OneBell", name := "within", desc := "(III)Z" }, "OneBell"), ("OneBell$Reader", 126, { cls := "OneBell", name := "within", desc := "(III)Z" }, "OneBell"), ("OneBell$Reader", 106, { cls := "OneBell", name := "has", desc := "(II)Z" }, "OneBell"), ("OneBell$Swing", 69, { cls := "OneBell", name := "has", desc := "(II)Z" }, "OneBell"), ("OneBell$Day", 105, { cls := "OneBell", name := "has", desc := "(II)Z" }, "OneBell"), ("OneBell$Village", 80, { cls := "OneBell", name := "has", desc := "(II)Z" }, "OneBell"), ("OneBell$SlackSearch", 87, { cls := "OneBell", name := "has", desc := "(II)Z" }, "OneBell")]
def EV (G : GG) (U : State) : Prop := va_K G.1 vwCl (tys3 G.2.1) U ∧ (∀ q ∈ nestL, va_Nw (.methodLinkNest q.1 q.2.1 q.2.2.1 q.2.2.2) U) ∧ ∀ i : Nat, i < 5 → vk_R "OneBell$Reader" (strIx.getD i 0) (strTx.getD i "") (G.2.2 (10 + i)) U
def SX (G : GG) (A : Nat → Prop) (U : State) (H : Heap) : Prop := va_Z "OneBell$Day" "FACTORIAL" "[I" (.ref (G.2.2 0)) A U H ∧ va_T .int (G.2.2 0) 6 (fun j => .int (facL.getD j 0)) A U H ∧ vk_S 5 strLen strByt (fun i => G.2.2 (10 + i)) (fun i => G.2.2 (20 + i)) A U H ∧ va_Z "java/lang/String" "COMPACT_STRINGS" "Z" (.int 1) A U H ∧ va_Zq "jdk/internal/util/Preconditions" "SIOOBE_FORMATTER" "Ljava/util/function/BiFunction;" A U H
theorem EV.warm {G : GG} {s U : State} (hW : s.WarmedH U.vm) (h : EV G s) : EV G U := ⟨va_K.moved hW.alike h.1, fun q hq => va_Nw.warmM hW (h.2.1 q hq), fun i hi => (h.2.2 i hi).warm hW⟩
theorem EV.call {G : GG} {U : State} {g : JFrame} {mk : MethodId} {a : Array Value} (h : EV G U) : EV G (U.calling g mk a) := ⟨va_K.moved (u := U) (U := U.calling g mk a) (Vm.Alike.refl U.vm) h.1, fun q hq => va_Nw.same (u := U) (U := U.calling g mk a) rfl rfl (h.2.1 q hq), fun i hi => (h.2.2 i hi).same (U := U.calling g mk a) rfl⟩
theorem SX.call {G : GG} {A : Nat → Prop} {U : State} {H : Heap} {g : JFrame} {mk : MethodId} {a : Array Value} (h : SX G A U H) : SX G A (U.calling g mk a) H := ⟨va_Z.moved (u := U) (U := U.calling g mk a) (Vm.Alike.refl U.vm) h.1, va_T.moved (u := U) (U := U.calling g mk a) (Vm.Alike.refl U.vm) h.2.1, vk_S.moved (u := U) (U := U.calling g mk a) (Vm.Alike.refl U.vm) h.2.2.1, va_Z.moved (u := U) (U := U.calling g mk a) (Vm.Alike.refl U.vm) h.2.2.2.1, va_Zq.moved (u := U) (U := U.calling g mk a) (Vm.Alike.refl U.vm) h.2.2.2.2⟩
theorem SX.to {G : GG} {A B : Nat → Prop} {s U : State} {H : Heap} {locs : List Loc} (h : SX G A s s.heap) (hS : va_S A s.heap H locs) (hB : ∀ q, B q → A q) (hv : s.vm.Alike U.vm) : SX G B U H :=
  ⟨va_Z.moved hv ((h.1.kept hS.2.1).narrow hB), va_T.moved hv ((h.2.1.kept hS.2.1).narrow hB), vk_S.moved hv ((h.2.2.1.kept hS.2.1).narrow hB), va_Z.moved hv ((h.2.2.2.1.kept hS.2.1).narrow hB), va_Zq.moved hv ((h.2.2.2.2.kept hS.2.1).narrow hB)⟩
def CP (G : GG) (us : List va_W) (sz : Nat) (U : State) : Prop := U.heap.size = sz ∧ va_P G.1 vwCl us.flatten U.heap ∧ EV G U ∧ SX G (va_A us.flatten sz) U U.heap ∧ va_D (fun _ => True) us.flatten
theorem CP.blind {G : GG} {us : List va_W} {sz : Nat} {av : List Value} : FrameBlind (va_Pc av (CP G us sz)) := fun _ _ _ _ q => ⟨q.1, q.2.1, q.2.2.1, q.2.2.2.1.call, q.2.2.2.2.1.call, q.2.2.2.2.2⟩
/-- a method's context -/
def MC (own : String) (cc : ByteArray) (nL : Nat) (rt : Option FieldType) (G : GG) (A : Nat → Prop) (p : Program) (s : State) (m : MethodId) (args : Array Value) (meth : Method) (c : Code) : Prop :=
  p.tables.exec = Jvm.exec ∧ c.code = cc ∧ meth.sig.returnType = rt ∧ c.maxLocals = nL ∧ s.vm.findClass own = some m.cls ∧ (∀ w ∈ gt, w.before args s = true) ∧ EV G s ∧ SX G A s s.heap ∧ (∀ q, s.heap.size ≤ q → A q) ∧ meth.locks = false
section KMC
variable {own : String} {cc : ByteArray} {nL : Nat} {rt : Option FieldType} {G : GG} {A : Nat → Prop} {p : Program} {s : State} {m : MethodId} {args : Array Value} {meth : Method} {c : Code}
theorem MC.hx (C : MC own cc nL rt G A p s m args meth c) : p.tables.exec = Jvm.exec := C.1
theorem MC.hb (C : MC own cc nL rt G A p s m args meth c) : c.code = cc := C.2.1
theorem MC.hr (C : MC own cc nL rt G A p s m args meth c) : meth.sig.returnType = rt := C.2.2.1
theorem MC.hml (C : MC own cc nL rt G A p s m args meth c) : c.maxLocals = nL := C.2.2.2.1
theorem MC.hown (C : MC own cc nL rt G A p s m args meth c) : s.vm.findClass own = some m.cls := C.2.2.2.2.1
theorem MC.hts (C : MC own cc nL rt G A p s m args meth c) : ∀ w ∈ gt, w.before args s = true := C.2.2.2.2.2.1
theorem MC.ev (C : MC own cc nL rt G A p s m args meth c) : EV G s := C.2.2.2.2.2.2.1
theorem MC.hK (C : MC own cc nL rt G A p s m args meth c) : va_K G.1 vwCl (tys3 G.2.1) s := C.2.2.2.2.2.2.1.1
theorem MC.sx (C : MC own cc nL rt G A p s m args meth c) : SX G A s s.heap := C.2.2.2.2.2.2.2.1
theorem MC.hA (C : MC own cc nL rt G A p s m args meth c) : ∀ q, s.heap.size ≤ q → A q := C.2.2.2.2.2.2.2.2.1
theorem MC.hk (C : MC own cc nL rt G A p s m args meth c) : meth.locks = false := C.2.2.2.2.2.2.2.2.2
theorem MC.fix (C : MC own cc nL rt G A p s m args meth c) : CallFix p m c cc nL s args gt own := ⟨C.hx, C.hb, C.hml, C.hown, C.hts⟩
end KMC
/-- the world of a method at a place in its run -/
def HP (G : GG) (A : Nat → Prop) (s : State) (us : List va_W) (H : Heap) (locs : List Loc) : Prop := va_P G.1 vwCl us.flatten H ∧ va_D A us.flatten ∧ va_S A s.heap H locs
def wdm (y : MethodName) (cc : ByteArray) (maxL : Nat) (ret : Option FieldType) : List Cond := Cond.code y cc maxL ret :: gt
def rmm (d : Nat) : Room := { frames := d, cells := 0, slots := 0, locals := 60 * d }
def fsts (us : List va_W) : List (List Nat) := us.map (List.map Prod.fst)
/-- contracts without new cells: int, long, void, reference -/
def MI (l : Launch) (y : MethodName) (cc : ByteArray) (maxL : Nat) (ret : Option FieldType) (d : Nat) (av : List Value) (G : GG) (us : List va_W) (r : Int32) (us' : List va_W) : Prop :=
  fsts us' = fsts us ∧ ∀ sz, Met l y (wdm y cc maxL ret) (rmm d) (va_Pc av (CP G us sz)) (va_Qi (fun x (_ : Unit) => x = r) (fun _ t => va_P G.1 vwCl us'.flatten t.heap) (va_A us.flatten sz)) 0 0 (va_A us.flatten sz)
def ML (l : Launch) (y : MethodName) (cc : ByteArray) (maxL : Nat) (ret : Option FieldType) (d : Nat) (av : List Value) (G : GG) (us : List va_W) (r : Int64) (us' : List va_W) : Prop :=
  fsts us' = fsts us ∧ ∀ sz, Met l y (wdm y cc maxL ret) (rmm d) (va_Pc av (CP G us sz)) (va_Ql (fun x (_ : Unit) => x = r) (fun _ t => va_P G.1 vwCl us'.flatten t.heap) (va_A us.flatten sz)) 0 0 (va_A us.flatten sz)
def MV (l : Launch) (y : MethodName) (cc : ByteArray) (maxL : Nat) (ret : Option FieldType) (d : Nat) (av : List Value) (G : GG) (us : List va_W) (us' : List va_W) : Prop :=
  fsts us' = fsts us ∧ ∀ sz, Met l y (wdm y cc maxL ret) (rmm d) (va_Pc av (CP G us sz)) (va_Qv (fun (_ : Unit) => True) (fun _ t => va_P G.1 vwCl us'.flatten t.heap) (va_A us.flatten sz)) 0 0 (va_A us.flatten sz)
def MR (l : Launch) (y : MethodName) (cc : ByteArray) (maxL : Nat) (ret : Option FieldType) (d : Nat) (av : List Value) (G : GG) (us : List va_W) (r : Nat) (us' : List va_W) : Prop :=
  fsts us' = fsts us ∧ ∀ sz, Met l y (wdm y cc maxL ret) (rmm d) (va_Pc av (CP G us sz)) (va_Qr (fun (_ : Unit) => True) (fun _ a t => a = r ∧ va_P G.1 vwCl us'.flatten t.heap) (va_A us.flatten sz)) 0 0 (va_A us.flatten sz)
def QI (below : List Frame) (G : GG) (A : Nat → Prop) (args : Array Value) (s : State) (r : Int32) (us' : List va_W) : State → Prop := MQ below (va_Qi (fun x (_ : Unit) => x = r) (fun _ t => va_P G.1 vwCl us'.flatten t.heap) A) args s 0 0 A
def QL (below : List Frame) (G : GG) (A : Nat → Prop) (args : Array Value) (s : State) (r : Int64) (us' : List va_W) : State → Prop := MQ below (va_Ql (fun x (_ : Unit) => x = r) (fun _ t => va_P G.1 vwCl us'.flatten t.heap) A) args s 0 0 A
def QV (below : List Frame) (G : GG) (A : Nat → Prop) (args : Array Value) (s : State) (us' : List va_W) : State → Prop := MQ below (va_Qv (fun (_ : Unit) => True) (fun _ t => va_P G.1 vwCl us'.flatten t.heap) A) args s 0 0 A
def QA (below : List Frame) (G : GG) (A : Nat → Prop) (args : Array Value) (s : State) (r : Nat) (us' : List va_W) : State → Prop := MQ below (va_Qr (fun (_ : Unit) => True) (fun _ a t => a = r ∧ va_P G.1 vwCl us'.flatten t.heap) A) args s 0 0 A
section KINTRO
variable {l : Launch} {y : MethodName} {cc : ByteArray} {maxL : Nat} {ret : Option FieldType} {d : Nat} {av : List Value} {G : GG} {us us' : List va_W}
theorem entry_of {p : Program} {e : Env} {s s₁ : State} {m : MethodId} {args : Array Value} {below : List Frame} {meth : Method} {c : Code} {sz : Nat} (B : BodyLoose p l y (headSpec (wdm y cc maxL ret) (rmm d)) cc maxL ret e s m args below meth c s₁) (hml : c.maxLocals = maxL) (hv : va_Pc av (CP G us sz) args s) :
    args = av.toArray ∧ sz = s.heap.size ∧ MC y.cls cc maxL ret G (va_A us.flatten s.heap.size) p s m args meth c ∧ HP G (va_A us.flatten s.heap.size) s us s.heap [] := by
  obtain ⟨h1, h2, h3, h4, h5, h6⟩ := hv
  subst h2
  have hts := atoms_spec (ws := wdm y cc maxL ret) B.pre
  exact ⟨h1, rfl, ⟨B.exec, B.bytes, B.returns, hml, findClass_of_methodNamed B.named, fun w hw => hts w (List.mem_cons_of_mem _ hw), h4, h5, fun q h => Or.inr h, B.notSynchronized⟩, h3, h6.self, va_S.rf⟩
theorem ls_of (hlen : (lg_sl av).length ≤ maxL) {m : MethodId} {P : JFrame → Prop} (h : ∀ ls : Array Slot, lv_has ls maxL (lv_args 0 av) → P (F0 m 0 ls [])) : P (entryFrame m av.toArray maxL) := by
  have hl := lv_entry av (n := maxL) hlen
  rw [lg_entry_eq]
  exact h _ hl
theorem MI.intro {r : Int32} (hy : plainName y.cls = true) (hm : fsts us' = fsts us) (hlen : (lg_sl av).length ≤ maxL)
    (body : ∀ (p : Program) (e : Env) (s : State) (m : MethodId) (args : Array Value) (below : List Frame) (meth : Method) (c : Code) (A : Nat → Prop) (ls : Array Slot), MC y.cls cc maxL ret G A p s m args meth c → HP G A s us s.heap [] → lv_has ls maxL (lv_args 0 av) → W p l e (rmm d) s m args below meth c s.heap [] 0 0 (QI below G A args s r us') (F0 m 0 ls [])) : MI l y cc maxL ret d av G us r us' := by
  refine ⟨hm, fun sz => Met.ofW (cc := cc) (maxL := maxL) (ret := ret) hy rfl ?_⟩
  intro p e s m args below meth c s₁ B hml hv
  obtain ⟨rfl, rfl, C, h⟩ := entry_of B hml hv
  exact ls_of hlen (P := fun g => W p l e (rmm d) s m av.toArray below meth c s.heap [] 0 0 _ g) fun ls hl => body p e s m _ below meth c _ ls C h hl
theorem ML.intro {r : Int64} (hy : plainName y.cls = true) (hm : fsts us' = fsts us) (hlen : (lg_sl av).length ≤ maxL)
    (body : ∀ (p : Program) (e : Env) (s : State) (m : MethodId) (args : Array Value) (below : List Frame) (meth : Method) (c : Code) (A : Nat → Prop) (ls : Array Slot), MC y.cls cc maxL ret G A p s m args meth c → HP G A s us s.heap [] → lv_has ls maxL (lv_args 0 av) → W p l e (rmm d) s m args below meth c s.heap [] 0 0 (QL below G A args s r us') (F0 m 0 ls [])) : ML l y cc maxL ret d av G us r us' := by
  refine ⟨hm, fun sz => Met.ofW (cc := cc) (maxL := maxL) (ret := ret) hy rfl ?_⟩
  intro p e s m args below meth c s₁ B hml hv
  obtain ⟨rfl, rfl, C, h⟩ := entry_of B hml hv
  exact ls_of hlen (P := fun g => W p l e (rmm d) s m av.toArray below meth c s.heap [] 0 0 _ g) fun ls hl => body p e s m _ below meth c _ ls C h hl
theorem MV.intro (hy : plainName y.cls = true) (hm : fsts us' = fsts us) (hlen : (lg_sl av).length ≤ maxL)
    (body : ∀ (p : Program) (e : Env) (s : State) (m : MethodId) (args : Array Value) (below : List Frame) (meth : Method) (c : Code) (A : Nat → Prop) (ls : Array Slot), MC y.cls cc maxL ret G A p s m args meth c → HP G A s us s.heap [] → lv_has ls maxL (lv_args 0 av) → W p l e (rmm d) s m args below meth c s.heap [] 0 0 (QV below G A args s us') (F0 m 0 ls [])) : MV l y cc maxL ret d av G us us' := by
  refine ⟨hm, fun sz => Met.ofW (cc := cc) (maxL := maxL) (ret := ret) hy rfl ?_⟩
  intro p e s m args below meth c s₁ B hml hv
  obtain ⟨rfl, rfl, C, h⟩ := entry_of B hml hv
  exact ls_of hlen (P := fun g => W p l e (rmm d) s m av.toArray below meth c s.heap [] 0 0 _ g) fun ls hl => body p e s m _ below meth c _ ls C h hl
theorem MR.intro {r : Nat} (hy : plainName y.cls = true) (hm : fsts us' = fsts us) (hlen : (lg_sl av).length ≤ maxL)
    (body : ∀ (p : Program) (e : Env) (s : State) (m : MethodId) (args : Array Value) (below : List Frame) (meth : Method) (c : Code) (A : Nat → Prop) (ls : Array Slot), MC y.cls cc maxL ret G A p s m args meth c → HP G A s us s.heap [] → lv_has ls maxL (lv_args 0 av) → W p l e (rmm d) s m args below meth c s.heap [] 0 0 (QA below G A args s r us') (F0 m 0 ls [])) : MR l y cc maxL ret d av G us r us' := by
  refine ⟨hm, fun sz => Met.ofW (cc := cc) (maxL := maxL) (ret := ret) hy rfl ?_⟩
  intro p e s m args below meth c s₁ B hml hv
  obtain ⟨rfl, rfl, C, h⟩ := entry_of B hml hv
  exact ls_of hlen (P := fun g => W p l e (rmm d) s m av.toArray below meth c s.heap [] 0 0 _ g) fun ls hl => body p e s m _ below meth c _ ls C h hl
end KINTRO
/-- a class's facts, a field's links -/
def FC (ci : Nat) (C : String) (T : u_T) (N : Nat) (ty : Nat → FieldType) : Prop := vwCl[ci]? = some (C, T, N) ∧ (∀ w ∈ u_ws C T N, w ∈ gt) ∧ (∀ k, k < N → parseFieldDescriptor (T k).2.2.1 = some (ty k)) ∧ (∀ a, a < N → ∀ b, b < N → a ≠ b → (T a).2.1 ≠ (T b).2.1)
def FL (own : String) (index ci k : Nat) : Prop := ∃ (C : String) (T : u_T) (N : Nat) (ty : Nat → FieldType), FC ci C T N ty ∧ k < N ∧ Cond.fieldLink own index (T k).1 (T k).2.1 (T k).2.2.1 ∈ gt
def FP (own : String) (index ci k : Nat) (t : FieldType) : Prop := ∃ (C : String) (T : u_T) (N : Nat) (ty : Nat → FieldType), FC ci C T N ty ∧ k < N ∧ Cond.fieldLink own index (T k).1 (T k).2.1 (T k).2.2.1 ∈ gt ∧ (T k).2.2.2 = false ∧ ty k = t
theorem FL.mk {own : String} {index ci k : Nat} {C : String} {T : u_T} {N : Nat} {ty : Nat → FieldType} (h : FC ci C T N ty) (hk : k < N) (hl : Cond.fieldLink own index (T k).1 (T k).2.1 (T k).2.2.1 ∈ gt) : FL own index ci k := ⟨C, T, N, ty, h, hk, hl⟩
theorem FP.mk {own : String} {index ci k : Nat} {C : String} {T : u_T} {N : Nat} {ty : Nat → FieldType} {t : FieldType} (h : FC ci C T N ty) (hk : k < N) (hl : Cond.fieldLink own index (T k).1 (T k).2.1 (T k).2.2.1 ∈ gt) (hf : (T k).2.2.2 = false) (ht : ty k = t) : FP own index ci k t := ⟨C, T, N, ty, h, hk, hl, hf, ht⟩
theorem at_H {D : va_G} {cl : List vw_C} {ws : va_W} {t : State} {H : Heap} (ht : t.heap = H) (h : va_P D cl ws H) : va_P D cl ws t.heap := by rw [ht]; exact h
section KROWS
variable {own : String} {cc : ByteArray} {nL : Nat} {rt : Option FieldType} {G : GG} {A : Nat → Prop} {p : Program} {l : Launch} {e : Env} {R : Room} {s : State} {m : MethodId} {args : Array Value} {below : List Frame} {meth : Method} {c : Code} {H : Heap} {locs : List Loc} {cells slots : Nat} {Q : State → Prop} {pc : Nat} {ls : Array Slot} {rest : List Value} {us us' : List va_W} {u u' : va_W}
theorem g_get (C : MC own cc nL rt G A p s m args meth c) (h : HP G A s us H locs) {index ci k a : Nat} (fl : FL own index ci k) (i j : Nat) (hu : us[i]? = some u) {fs : List Value} (hc : u[j]? = some (a, .inr (ci, fs))) {v : Value} (hv : fs[k]? = some v) (hdg : decode cc pc = .ok (.getfield index, 3))
    (kk : W p l e R s m args below meth c H locs cells slots Q (F0 m (pc + 3) ls (v :: rest))) : W p l e R s m args below meth c H locs cells slots Q (F0 m pc ls (.ref a :: rest)) := by
  obtain ⟨Cn, T, N, ty, ⟨f1, f2, f3, f4⟩, hk, hl⟩ := fl
  obtain ⟨q0, hq, -⟩ := fl_at us i j u _ hu hc
  exact va_get C.hx C.hb C.hts f2 C.hown C.hK h.1 q0 hq f1 k hk (C.hts _ hl) (fun _ h9 => h9) hv hdg kk
theorem g_put (C : MC own cc nL rt G A p s m args meth c) (h : HP G A s us H locs) {index ci k a : Nat} {t : FieldType} (fp : FP own index ci k t) (i j : Nat) (hu : us[i]? = some u) {fs : List Value} (hc : u[j]? = some (a, .inr (ci, fs))) {v : Value} (hn : narrow t v = v) (hfit : fits t v = true) (hl : k < fs.length) (hdg : decode cc pc = .ok (.putfield index, 3)) (hu' : u.set j (a, .inr (ci, fs.set k v)) = u') (hus : us.set i u' = us')
    (kk : ∀ (H1 : Heap) (locs1 : List Loc), HP G A s us' H1 locs1 → W p l e R s m args below meth c H1 locs1 cells slots Q (F0 m (pc + 3) ls rest)) : W p l e R s m args below meth c H locs cells slots Q (F0 m pc ls (v :: .ref a :: rest)) := by
  obtain ⟨Cn, T, N, ty, ⟨f1, f2, f3, f4⟩, hk, hl2, hf, ht⟩ := fp
  obtain ⟨q0, hq, hset⟩ := fl_at us i j u _ hu hc
  refine va_put C.hx C.hb C.hts f2 ty f3 f4 C.hown C.hK h.1 h.2.1 h.2.2 q0 hq f1 k hk (C.hts _ hl2) (fun _ h9 => h9) hf (ty := t) (by rw [← ht]; exact f3 k hk) hn hfit hl hdg (fun H1 locs1 g1 g2 g3 => kk H1 locs1 ?_)
  rw [hset, hu', hus] at g1 g2
  exact ⟨g1, g2, g3⟩
theorem g_iald (C : MC own cc nL rt G A p s m args meth c) (h : HP G A s us H locs) (i j : Nat) (hu : us[i]? = some u) {a n : Nat} {f : Nat → Int32} (hc : u[j]? = some (a, .inl (G.2.1 0, n, .inl f))) {x : Int32} (hin : vp_in x n) (hdg : decode cc pc = .ok (.iaload, 1))
    (kk : W p l e R s m args below meth c H locs cells slots Q (F0 m (pc + 1) ls (.int (f x.toNatClampNeg) :: rest))) : W p l e R s m args below meth c H locs cells slots Q (F0 m pc ls (.int x :: .ref a :: rest)) := by
  obtain ⟨q0, hq, -⟩ := fl_at us i j u _ hu hc
  exact va_iald C.hx C.hb C.hK h.1 q0 0 hq rfl hin hdg kk
theorem g_iast (C : MC own cc nL rt G A p s m args meth c) (h : HP G A s us H locs) (i j : Nat) (hu : us[i]? = some u) {a n : Nat} {f : Nat → Int32} (hc : u[j]? = some (a, .inl (G.2.1 0, n, .inl f))) {x y : Int32} (hin : vp_in x n) (hdg : decode cc pc = .ok (.iastore, 1)) (hu' : u.set j (a, .inl (G.2.1 0, n, .inl (upd f x.toNatClampNeg y))) = u') (hus : us.set i u' = us')
    (kk : ∀ (H1 : Heap) (locs1 : List Loc), HP G A s us' H1 locs1 → W p l e R s m args below meth c H1 locs1 cells slots Q (F0 m (pc + 1) ls rest)) : W p l e R s m args below meth c H locs cells slots Q (F0 m pc ls (.int y :: .int x :: .ref a :: rest)) := by
  obtain ⟨q0, hq, hset⟩ := fl_at us i j u _ hu hc
  refine va_iast C.hx C.hb C.hK h.1 h.2.1 h.2.2 q0 0 hq rfl hin hdg (fun H1 locs1 g1 g2 g3 => kk H1 locs1 ?_)
  rw [hset, hu', hus] at g1 g2
  exact ⟨g1, g2, g3⟩
theorem g_zald (C : MC own cc nL rt G A p s m args meth c) (h : HP G A s us H locs) (i j : Nat) (hu : us[i]? = some u) {a n : Nat} {f : Nat → Int32} (hc : u[j]? = some (a, .inl (G.2.1 1, n, .inl f))) {x : Int32} (hin : vp_in x n) (hdg : decode cc pc = .ok (.baload, 1))
    (kk : W p l e R s m args below meth c H locs cells slots Q (F0 m (pc + 1) ls (.int (f x.toNatClampNeg) :: rest))) : W p l e R s m args below meth c H locs cells slots Q (F0 m pc ls (.int x :: .ref a :: rest)) := by
  obtain ⟨q0, hq, -⟩ := fl_at us i j u _ hu hc
  exact va_zald C.hx C.hb C.hK h.1 q0 1 hq rfl hin hdg kk
theorem g_ret_i (C : MC own cc nL (some .int) G A p s m args meth c) (h : HP G A s us H locs) {x r : Int32} (hr : x = r) (hus : us = us') (hdg : decode cc pc = .ok (.ireturn, 1)) : W p l e R s m args below meth c H locs 0 0 (QI below G A args s r us') (F0 m pc ls [.int x]) := by
  subst hr; subst hus
  exact W.iret C.hx C.hb C.hr (fun t ht _ => ⟨⟨x, (), rfl, rfl, at_H ht h.1⟩, h.2.2.F ht⟩) h.2.2.2.2 hdg C.hk
theorem g_ret_z (C : MC own cc nL (some .boolean) G A p s m args meth c) (h : HP G A s us H locs) {b : Bool} {x r : Int32} (hb : x = b2i b) (hr : x = r) (hus : us = us') (hdg : decode cc pc = .ok (.ireturn, 1)) : W p l e R s m args below meth c H locs 0 0 (QI below G A args s r us') (F0 m pc ls [.int x]) := by
  subst hr; subst hus
  exact W.zret C.hx C.hb C.hr (by rw [hb]; cases b <;> rfl) (fun t ht _ => ⟨⟨x, (), rfl, rfl, at_H ht h.1⟩, h.2.2.F ht⟩) h.2.2.2.2 hdg C.hk
theorem g_ret_l (C : MC own cc nL (some .long) G A p s m args meth c) (h : HP G A s us H locs) {x r : Int64} (hr : x = r) (hus : us = us') (hdg : decode cc pc = .ok (.lreturn, 1)) : W p l e R s m args below meth c H locs 0 0 (QL below G A args s r us') (F0 m pc ls [.long x]) := by
  subst hr; subst hus
  exact W.lret C.hx C.hb C.hr (fun t ht _ => ⟨⟨x, (), rfl, rfl, at_H ht h.1⟩, h.2.2.F ht⟩) h.2.2.2.2 hdg C.hk
theorem g_ret_v (C : MC own cc nL none G A p s m args meth c) (h : HP G A s us H locs) (hus : us = us') (hdg : decode cc pc = .ok (.return_, 1)) : W p l e R s m args below meth c H locs 0 0 (QV below G A args s us') (F0 m pc ls []) := by
  subst hus
  exact W.vret C.hx C.hb C.hr (fun t ht _ => ⟨⟨(), rfl, trivial, at_H ht h.1⟩, h.2.2.F ht⟩) h.2.2.2.2 hdg C.hk
end KROWS
