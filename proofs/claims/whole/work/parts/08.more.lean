/-! more rows: array copy, boolean stores, static calls of other classes, Math -/
section KMORE
variable {own : String} {cc : ByteArray} {nL : Nat} {rt : Option FieldType} {G : GG} {A : Nat → Prop} {p : Program} {l : Launch} {e : Env} {R : Room} {s : State} {m : MethodId} {args : Array Value} {below : List Frame} {meth : Method} {c : Code} {H : Heap} {locs : List Loc} {cells slots : Nat} {Q : State → Prop} {pc : Nat} {ls : Array Slot} {rest st0 : List Value} {us us' us2 uc uc' : List va_W} {is : List Nat} {a : Array Value} {u u' u1 : va_W}
theorem g_copy (C : MC own cc nL rt G A p s m args meth c) (h : HP G A s us H locs) (hsize : ls.size = nL) {index : Nat} (hl1 : Cond.methodLink own index arraycopyName ∈ gt) (hl2 : Cond.native arraycopyName ∈ gt) (hl3 : Cond.static arraycopyName ∈ gt) (hl4 : Cond.initialized "java/lang/System" ∈ gt)
    (i0 j0 i1 j1 : Nat) (hu0 : us[i0]? = some u1) (hu : us[i1]? = some u) {a0 a1 n0 n1 : Nat} {f g : Nat → Int32} (hc0 : u1[j0]? = some (a0, .inl (G.2.1 0, n0, .inl f))) (hc1 : u[j1]? = some (a1, .inl (G.2.1 0, n1, .inl g)))
    {sp dp n : Int32} (x y z : Nat) (hxyz : sp = nI x ∧ dp = nI y ∧ n = nI z ∧ x < 1000 ∧ y < 1000 ∧ z < 1000) (h4 : x + z ≤ n0) (h5 : y + z ≤ n1) (hframes : 1 ≤ R.frames) (hlocals : (rest.map fun v => v.category).sum + (nativeFrameWords "java/lang/System" "arraycopy" 5 + 11) ≤ R.locals) (hdg : decode cc pc = .ok (.invokestatic index, 3)) (hu' : u.set j1 (a1, .inl (G.2.1 0, n1, .inl (va_cpy f g x y z))) = u') (hus : us.set i1 u' = us')
    (kk : ∀ (H1 : Heap) (locs1 : List Loc), HP G A s us' H1 locs1 → W p l e R s m args below meth c H1 locs1 cells slots Q (F0 m (pc + 3) ls rest)) : W p l e R s m args below meth c H locs cells slots Q (F0 m pc ls (.int n :: .int dp :: .ref a1 :: .int sp :: .ref a0 :: rest)) := by
  obtain ⟨e1, e2, e3, b1, b2, b3⟩ := hxyz
  obtain ⟨q0, hq0, -⟩ := fl_at us i0 j0 u1 _ hu0 hc0
  obtain ⟨q1, hq1, hset⟩ := fl_at us i1 j1 u _ hu hc1
  have c1 : sp.toNatClampNeg = x := by rw [e1]; exact nI_clamp (by omega)
  have c2 : dp.toNatClampNeg = y := by rw [e2]; exact nI_clamp (by omega)
  have c3 : n.toNatClampNeg = z := by rw [e3]; exact nI_clamp (by omega)
  refine va_copyi C.hx C.hb (C.hml.trans hsize.symm) C.hown (C.hts _ hl1) (C.hts _ hl2) (C.hts _ hl3) (C.hts _ hl4) C.hK h.1 h.2.1 h.2.2 q0 q1 0 0 (ty := .int) hq0 hq1 rfl rfl rfl (by rw [e1]; exact nI_pos (by omega)) (by rw [e2]; exact nI_pos (by omega)) (by rw [e3]; exact nI_pos (by omega)) (by rw [c1, c3]; exact h4) (by rw [c2, c3]; exact h5) (fun _ _ => rfl) hframes hlocals hdg (fun H1 locs1 g1 g2 g3 => kk H1 locs1 ?_)
  rw [c1, c2, c3, hset, hu', hus] at g1 g2
  exact ⟨g1, g2, g3⟩
theorem g_zast (C : MC own cc nL rt G A p s m args meth c) (h : HP G A s us H locs) (i j : Nat) (hu : us[i]? = some u) {a n : Nat} {f : Nat → Int32} (hc : u[j]? = some (a, .inl (G.2.1 1, n, .inl f))) {x y : Int32} {b : Bool} (hb : y = b2i b) (hin : vp_in x n) (hdg : decode cc pc = .ok (.bastore, 1)) (hu' : u.set j (a, .inl (G.2.1 1, n, .inl (upd f x.toNatClampNeg y))) = u') (hus : us.set i u' = us')
    (kk : ∀ (H1 : Heap) (locs1 : List Loc), HP G A s us' H1 locs1 → W p l e R s m args below meth c H1 locs1 cells slots Q (F0 m (pc + 1) ls rest)) : W p l e R s m args below meth c H locs cells slots Q (F0 m pc ls (.int y :: .int x :: .ref a :: rest)) := by
  obtain ⟨q0, hq, hset⟩ := fl_at us i j u _ hu hc
  have hy : vp_nar .boolean y = y := by rw [hb]; cases b <;> rfl
  refine va_zast C.hx C.hb C.hK h.1 h.2.1 h.2.2 q0 1 hq rfl hin hdg (fun H1 locs1 g1 g2 g3 => kk H1 locs1 ?_)
  rw [hy, hset, hu', hus] at g1 g2
  exact ⟨g1, g2, g3⟩
def TF (own : String) (index : Nat) (y : MethodName) (bytes : ByteArray) (maxL : Nat) (ret : Option FieldType) (n : Nat) : Prop := (y.cls ≠ "java/lang/invoke/MethodHandle" ∧ y.cls ≠ "java/lang/invoke/VarHandle" ∧ (parseMethodDescriptor y.desc).map (fun d => d.parameters.length) = some n) ∧ GoodIn gt (va_wsS own index y (wdm y bytes maxL ret))
variable {y : MethodName} {bytes : ByteArray} {maxL index n ci d dd b : Nat} {ret : Option FieldType} {As : List Value} {Qc : Array Value → State → Outcome → State → Prop} {free : Addr → Prop}
theorem g_runT (C : MC own cc nL rt G A p s m args meth c) (h : HP G A s us H locs) (hn : va_nd is = true) (hC : is.map (fun i => us[i]?) = uc.map some) (hM : Met l y (wdm y bytes maxL ret) (rmm d) (va_Pc As (CP G uc H.size)) Qc 0 0 free) (sf : TF own index y bytes maxL ret n) (hsize : ls.size = nL) (hln : As.length = n) (hst : st0 = As.reverse ++ rest) (hW : (rest.map fun v => v.category).sum ≤ 8) (hdg : decode cc pc = .ok (.invokestatic index, 3)) (hR : d + 1 ≤ R.frames ∧ 8 + (maxL + 11) + 60 * d ≤ R.locals) (hf : cells ≤ R.cells ∧ slots ≤ R.slots) :
    va_Run p l e R s m args below meth c H locs cells slots 0 0 (F0 m pc ls st0) rest (Qc As.toArray) free :=
  va_runS C.fix hM (va_cwS n C.hts sf.2 rfl rfl rfl sf.1 hR) ⟨CP.blind, g_pre C h hn hC⟩ rfl hln hsize hst (lv_room hW) hdg hf
theorem g_max (C : MC own cc nL rt G A p s m args meth c) (hsize : ls.size = nL) {index : Nat} {x y v : Int32} (hl1 : Cond.methodLink own index Lib.Math.max.name ∈ gt) (hl2 : Cond.static Lib.Math.max.name ∈ gt) (hl3 : Cond.initialized "java/lang/Math" ∈ gt) (hl4 : Cond.code Lib.Math.max.name Lib.Math.max.code 2 (some .int) ∈ gt) (hframes : 1 ≤ R.frames) (hlocals : (rest.map fun v => v.category).sum + 13 ≤ R.locals) (hf : cells ≤ R.cells ∧ slots ≤ R.slots) (hdg : decode cc pc = .ok (.invokestatic index, 3)) (hv : (if x < y then y else x) = v)
    (kk : W p l e R s m args below meth c H locs cells slots Q (F0 m (pc + 3) ls (.int v :: rest))) : W p l e R s m args below meth c H locs cells slots Q (F0 m pc ls (.int y :: .int x :: rest)) := by
  subst hv
  exact va_mmax C.hx C.hb (C.hml.trans hsize.symm) C.hown (C.hts _ hl1) (C.hts _ hl2) (C.hts _ hl3) (C.hts _ hl4) hframes hlocals hf.1 hf.2 hdg kk
theorem g_min (C : MC own cc nL rt G A p s m args meth c) (hsize : ls.size = nL) {index : Nat} {x y v : Int32} (hl1 : Cond.methodLink own index Lib.Math.min.name ∈ gt) (hl2 : Cond.static Lib.Math.min.name ∈ gt) (hl3 : Cond.initialized "java/lang/Math" ∈ gt) (hl4 : Cond.code Lib.Math.min.name Lib.Math.min.code 2 (some .int) ∈ gt) (hframes : 1 ≤ R.frames) (hlocals : (rest.map fun v => v.category).sum + 13 ≤ R.locals) (hf : cells ≤ R.cells ∧ slots ≤ R.slots) (hdg : decode cc pc = .ok (.invokestatic index, 3)) (hv : (if y < x then y else x) = v)
    (kk : W p l e R s m args below meth c H locs cells slots Q (F0 m (pc + 3) ls (.int v :: rest))) : W p l e R s m args below meth c H locs cells slots Q (F0 m pc ls (.int y :: .int x :: rest)) := by
  subst hv
  exact va_mmin C.hx C.hb (C.hml.trans hsize.symm) C.hown (C.hts _ hl1) (C.hts _ hl2) (C.hts _ hl3) (C.hts _ hl4) hframes hlocals hf.1 hf.2 hdg kk
theorem g_abs (C : MC own cc nL rt G A p s m args meth c) (hsize : ls.size = nL) {index : Nat} {x v : Int32} (hl1 : Cond.methodLink own index Lib.Math.abs.name ∈ gt) (hl2 : Cond.static Lib.Math.abs.name ∈ gt) (hl3 : Cond.initialized "java/lang/Math" ∈ gt) (hl4 : Cond.code Lib.Math.abs.name Lib.Math.abs.code 1 (some .int) ∈ gt) (hframes : 1 ≤ R.frames) (hlocals : (rest.map fun v => v.category).sum + 13 ≤ R.locals) (hf : cells ≤ R.cells ∧ slots ≤ R.slots) (hdg : decode cc pc = .ok (.invokestatic index, 3)) (hv : (if 0 ≤ x then x else 0 - x) = v)
    (kk : W p l e R s m args below meth c H locs cells slots Q (F0 m (pc + 3) ls (.int v :: rest))) : W p l e R s m args below meth c H locs cells slots Q (F0 m pc ls (.int x :: rest)) := by
  subst hv
  exact va_mabs C.hx C.hb (C.hml.trans hsize.symm) C.hown (C.hts _ hl1) (C.hts _ hl2) (C.hts _ hl3) (C.hts _ hl4) hframes hlocals hf.1 hf.2 hdg kk
/-- a call of an overriding method, through the name of the class that told it first -/
def UF (own : String) (index ci : Nat) (x y : MethodName) (bytes : ByteArray) (maxL : Nat) (ret : Option FieldType) (n : Nat) : Prop := ∃ (T : u_T) (N : Nat) (owner : String) (b0 : ByteArray) (m0 : Nat) (r0 : Option FieldType), vwCl[ci]? = some (y.cls, T, N) ∧ GoodIn gt (va_wsO own index y.cls owner x y (wdm y bytes maxL ret)) ∧ Cond.code ⟨owner, x.name, x.desc⟩ b0 m0 r0 ∈ gt ∧ (owner ≠ "java/lang/invoke/MethodHandle" ∧ owner ≠ "java/lang/invoke/VarHandle" ∧ (parseMethodDescriptor x.desc).map (fun d => d.parameters.length) = some n)
theorem g_runU {x : MethodName} (C : MC own cc nL rt G A p s m args meth c) (h : HP G A s us H locs) (hn : va_nd is = true) (hC : is.map (fun i => us[i]?) = uc.map some) (hM : Met l y (wdm y bytes maxL ret) (rmm d) (va_Pc (.ref b :: As) (CP G uc H.size)) Qc 0 0 free) (uf : UF own index ci x y bytes maxL ret n) (i j : Nat) {u : va_W} (hu : us[i]? = some u) {fs : List Value} (hc : u[j]? = some (b, .inr (ci, fs))) (hsize : ls.size = nL) (hln : As.length = n) (hst : st0 = As.reverse ++ .ref b :: rest) (hW : (rest.map fun v => v.category).sum ≤ 8) (hdg : decode cc pc = .ok (.invokevirtual index, 3)) (hR : d + 1 ≤ R.frames ∧ 8 + (maxL + 11) + 60 * d ≤ R.locals) (hf : cells ≤ R.cells ∧ slots ≤ R.slots) :
    va_Run p l e R s m args below meth c H locs cells slots 0 0 (F0 m pc ls st0) rest (Qc (Value.ref b :: As).toArray) free := by
  obtain ⟨T, N, owner, b0, m0, r0, f1, f2, f3, f4⟩ := uf
  obtain ⟨q0, hq, -⟩ := fl_at us i j u _ hu hc
  exact va_runU C.fix hM (va_cwO n C.hts f2 rfl rfl rfl f3 f4 hR) ⟨CP.blind, va_recv C.hK h.1 f1 hq, g_pre C h hn hC⟩ rfl hln hsize hst (lv_room hW) hdg hf
/-- a call of the class above, on an object of any class below -/
def PF (own : String) (index : Nat) (y : MethodName) (bytes : ByteArray) (maxL : Nat) (ret : Option FieldType) (n : Nat) : Prop := GoodIn gt (va_wsSU own index y (wdm y bytes maxL ret)) ∧ (y.name ≠ "<init>" ∧ (parseMethodDescriptor y.desc).map (fun d => d.parameters.length) = some n)
theorem g_runP (C : MC own cc nL rt G A p s m args meth c) (h : HP G A s us H locs) (hn : va_nd is = true) (hC : is.map (fun i => us[i]?) = uc.map some) (hM : Met l y (wdm y bytes maxL ret) (rmm d) (va_Pc (.ref b :: As) (CP G uc H.size)) Qc 0 0 free) (pf : PF own index y bytes maxL ret n) (i j : Nat) {u : va_W} (hu : us[i]? = some u) {fs : List Value} {q : vw_C} (hq : vwCl[ci]? = some q) (hc : u[j]? = some (b, .inr (ci, fs))) (hsize : ls.size = nL) (hln : As.length = n) (hst : st0 = As.reverse ++ .ref b :: rest) (hW : (rest.map fun v => v.category).sum ≤ 8) (hdg : decode cc pc = .ok (.invokespecial index, 3)) (hR : d + 1 ≤ R.frames ∧ 8 + (maxL + 11) + 60 * d ≤ R.locals) (hf : cells ≤ R.cells ∧ slots ≤ R.slots) :
    va_Run p l e R s m args below meth c H locs cells slots 0 0 (F0 m pc ls st0) rest (Qc (Value.ref b :: As).toArray) free := by
  obtain ⟨q0, hq0, -⟩ := fl_at us i j u _ hu hc
  exact va_runSU (C.hK.1 ci q hq).2 C.fix hM (va_cwSU n C.hts pf.1 rfl rfl rfl pf.2 hR) ⟨CP.blind, va_recv C.hK h.1 hq hq0, g_pre C h hn hC⟩ rfl hln hsize hst (lv_room hW) hdg hf
theorem g_ret_a {cn : String} (C : MC own cc nL (some (.object cn)) G A p s m args meth c) (h : HP G A s us H locs) {x r : Nat} (hr : x = r) (hus : us = us') (hdg : decode cc pc = .ok (.areturn, 1)) : W p l e R s m args below meth c H locs 0 0 (QA below G A args s r us') (F0 m pc ls [.ref x]) := by
  subst hr; subst hus
  exact W.aret C.hx C.hb C.hr (Or.inl ⟨_, rfl⟩) (Or.inr ⟨_, rfl⟩) (fun t ht _ => ⟨⟨(), x, rfl, trivial, rfl, at_H ht h.1⟩, h.2.2.F ht⟩) h.2.2.2.2 hdg C.hk
end KMORE
theorem TF.mk {own : String} {index : Nat} {y : MethodName} {bytes : ByteArray} {maxL : Nat} {ret : Option FieldType} {n : Nat} (hd : y.cls ≠ "java/lang/invoke/MethodHandle" ∧ y.cls ≠ "java/lang/invoke/VarHandle" ∧ (parseMethodDescriptor y.desc).map (fun d => d.parameters.length) = some n) (h1 : Cond.methodLink own index y ∈ gt) (h2 : Cond.static y ∈ gt) (h4 : Cond.initialized y.cls ∈ gt) (h5 : Cond.code y bytes maxL ret ∈ gt) : TF own index y bytes maxL ret n :=
  ⟨hd, goodIn_gtA (fun z hz => by
    simp only [List.mem_cons, List.not_mem_nil, or_false] at hz
    rcases hz with rfl | rfl | rfl <;> assumption) h5⟩
