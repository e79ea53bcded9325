/-! new cells: arrays, objects, constructors -/
def rmk (d mc ms : Nat) : Room := { frames := d, cells := mc, slots := ms, locals := 60 * d }
def MK (l : Launch) (y : MethodName) (cc : ByteArray) (maxL : Nat) (d mc ms : Nat) (av : List Value) (G : GG) (u0 : va_W) (u1 : (Nat → Nat) → va_W) (nu : (Nat → Nat) → List va_W) : Prop :=
  (∀ q, (u1 q).map Prod.fst = u0.map Prod.fst) ∧ ∀ sz, Met l y (wdm y cc maxL none) (rmk d mc ms) (va_Pc av (CP G [u0] sz)) (va_Qv (fun (_ : Nat → Nat) => True) (fun q t => va_P G.1 vwCl ([u1 q] ++ nu q).flatten t.heap ∧ va_D (va_A [u0].flatten sz) ([u1 q] ++ nu q).flatten) (va_A [u0].flatten sz)) mc ms (va_A [u0].flatten sz)
def QK (below : List Frame) (G : GG) (A : Nat → Prop) (args : Array Value) (s : State) (mc ms : Nat) (u1 : (Nat → Nat) → va_W) (nu : (Nat → Nat) → List va_W) : State → Prop := MQ below (va_Qv (fun (_ : Nat → Nat) => True) (fun q t => va_P G.1 vwCl ([u1 q] ++ nu q).flatten t.heap ∧ va_D A ([u1 q] ++ nu q).flatten) A) args s mc ms A
theorem MK.intro {l : Launch} {y : MethodName} {cc : ByteArray} {maxL d mc ms : Nat} {av : List Value} {G : GG} {u0 : va_W} {u1 : (Nat → Nat) → va_W} {nu : (Nat → Nat) → List va_W} (hy : plainName y.cls = true) (hyn : y.name = "<init>") (hm : ∀ q, (u1 q).map Prod.fst = u0.map Prod.fst) (hlen : (lg_sl av).length ≤ maxL)
    (body : ∀ (p : Program) (e : Env) (s : State) (m : MethodId) (args : Array Value) (below : List Frame) (meth : Method) (c : Code) (A : Nat → Prop) (ls : Array Slot), MC y.cls cc maxL none G A p s m args meth c → meth.name = "<init>" → HP G A s [u0] s.heap [] → lv_has ls maxL (lv_args 0 av) → W p l e (rmk d mc ms) s m args below meth c s.heap [] 0 0 (QK below G A args s mc ms u1 nu) (F0 m 0 ls [])) : MK l y cc maxL d mc ms av G u0 u1 nu := by
  refine ⟨hm, fun sz => Met.ofW (cc := cc) (maxL := maxL) (ret := none) hy rfl ?_⟩
  intro p e s m args below meth c s₁ B hml hv
  have hts := atoms_spec (ws := wdm y cc maxL none) B.pre
  have hin : meth.name = "<init>" := (name_of_methodNamed B.named B.method).1.trans hyn
  obtain ⟨h1, h2, h3, h4, h5, h6⟩ := hv
  subst h1; subst h2
  exact ls_of hlen (P := fun g => W p l e (rmk d mc ms) s m av.toArray below meth c s.heap [] 0 0 _ g) fun ls hl => body p e s m _ below meth c _ ls ⟨B.exec, B.bytes, B.returns, hml, findClass_of_methodNamed B.named, fun w hw => hts w (List.mem_cons_of_mem _ hw), h4, h5, fun q h => Or.inr h, B.notSynchronized⟩ hin ⟨h3, h6.self, va_S.rf⟩ hl
def FPF (own : String) (index ci k : Nat) (t : FieldType) : Prop := ∃ (C : String) (T : u_T) (N : Nat) (ty : Nat → FieldType), FC ci C T N ty ∧ k < N ∧ Cond.fieldLink own index (T k).1 (T k).2.1 (T k).2.2.1 ∈ gt ∧ (T k).2.2.2 = true ∧ (T k).1 = own ∧ ty k = t
theorem FPF.mk {own : String} {index ci k : Nat} {C : String} {T : u_T} {N : Nat} {ty : Nat → FieldType} {t : FieldType} (h : FC ci C T N ty) (hk : k < N) (hl : Cond.fieldLink own index (T k).1 (T k).2.1 (T k).2.2.1 ∈ gt) (hf : (T k).2.2.2 = true) (ho : (T k).1 = own) (ht : ty k = t) : FPF own index ci k t := ⟨C, T, N, ty, h, hk, hl, hf, ho, ht⟩
theorem fl_app (us : List va_W) (u : va_W) : (us ++ [u]).flatten = us.flatten ++ u := by simp
theorem fl_pre : ∀ (us : List va_W) (i : Nat) (u : va_W), us[i]? = some u → [i].map (fun i => us[i]?) = [u].map some := fun us i u h => by simp only [List.map_cons, List.map_nil, h]
/-- a unit is replaced, new units come behind -/
theorem us_grow {A : Nat → Prop} {D : va_G} {cl : List vw_C} {us nu : List va_W} {i : Nat} {u0 u1 : va_W} {H H1 : Heap} (hP : va_P D cl us.flatten H) (hD : va_D A us.flatten) (hu : us[i]? = some u0) (hm : u1.map Prod.fst = u0.map Prod.fst) (hF : ∀ q, va_A [u0].flatten H.size q → A q)
    (hk : ∀ q : Nat, q < H.size → ¬ va_A [u0].flatten H.size q → H1[q]? = H[q]?) (hP1 : va_P D cl ([u1] ++ nu).flatten H1) (hD1 : va_D (va_A [u0].flatten H.size) ([u1] ++ nu).flatten) : va_P D cl (us.set i u1 ++ nu).flatten H1 ∧ va_D A (us.set i u1 ++ nu).flatten := by
  have hC := fl_pre us i u0 hu
  have hPa : va_P D cl [u1].flatten H1 := va_P.ofMem fun q hq => hP1.mem (by rw [List.flatten_append]; exact List.mem_append_left _ hq)
  have hPn : ∀ q ∈ nu.flatten, va_at D cl q H1 := fun q hq => hP1.mem (by rw [List.flatten_append]; exact List.mem_append_right _ hq)
  obtain ⟨g1, g2⟩ := us_join (is := [i]) (uc' := [u1]) hP hD rfl hC (by simp [hm]) hk hPa
  have hr : rpU us [i] [u1] = us.set i u1 := rfl
  rw [hr] at g1 g2
  refine ⟨?_, ?_⟩
  · rw [List.flatten_append]
    exact g1.app (va_P.ofMem hPn)
  · rw [List.flatten_append]
    rw [List.flatten_append] at hD1
    have hpw := List.pairwise_append.mp (va_D_pw hD1)
    have hnl : ∀ q ∈ nu.flatten, H.size ≤ q.1 := by
      intro q hq
      obtain ⟨k, hk2⟩ := List.getElem?_of_mem (List.mem_append_right [u1].flatten hq)
      rcases hD1.2 k q hk2 with ⟨k3, e3, h3⟩ | h3
      · exfalso
        have hmem : q.1 ∈ ([u0].flatten).map Prod.fst := List.mem_map.mpr ⟨_, List.mem_of_getElem? h3, rfl⟩
        rw [show ([u0].flatten).map Prod.fst = ([u1].flatten).map Prod.fst by simp [hm]] at hmem
        obtain ⟨p1, hp1, hp2⟩ := List.mem_map.mp hmem
        exact hpw.2.2 p1 hp1 q hq hp2
      · exact h3
    refine va_D.app g2 ⟨fun a b x y ha hb hxy => ?_, fun k q hk2 => ?_⟩ (fun a b x y ha hb hxy => ?_)
    · rcases Nat.lt_trichotomy a b with hlt | he | hlt
      · obtain ⟨la, ea⟩ := List.getElem?_eq_some_iff.mp ha
        obtain ⟨lb, eb⟩ := List.getElem?_eq_some_iff.mp hb
        exact absurd (by rw [ea, eb]; exact hxy) (List.pairwise_iff_getElem.mp hpw.2.1 a b la lb hlt)
      · exact he
      · obtain ⟨la, ea⟩ := List.getElem?_eq_some_iff.mp ha
        obtain ⟨lb, eb⟩ := List.getElem?_eq_some_iff.mp hb
        exact absurd (by rw [ea, eb]; exact hxy.symm) (List.pairwise_iff_getElem.mp hpw.2.1 b a lb la hlt)
    · exact hF _ (Or.inr (hnl q (List.mem_of_getElem? hk2)))
    · have h1 := hnl y (List.mem_of_getElem? hb)
      have h2 : x.1 < H.size := by
        have hx : x.1 ∈ (us.set i u1).flatten.map Prod.fst := List.mem_map.mpr ⟨x, List.mem_of_getElem? ha, rfl⟩
        have he : (us.set i u1).flatten.map Prod.fst = us.flatten.map Prod.fst := fl_fst (rpU_fst [i] [u0] [u1] us hC rfl (by simp [hm]))
        rw [he] at hx
        obtain ⟨p1, hp1, hp2⟩ := List.mem_map.mp hx
        rw [← hp2]
        exact (hP.mem hp1).lt
      omega
section KNEW
variable {own : String} {cc : ByteArray} {nL : Nat} {rt : Option FieldType} {G : GG} {A : Nat → Prop} {p : Program} {l : Launch} {e : Env} {R : Room} {s : State} {m : MethodId} {args : Array Value} {below : List Frame} {meth : Method} {c : Code} {H : Heap} {locs : List Loc} {cells slots : Nat} {Q : State → Prop} {pc : Nat} {ls : Array Slot} {rest st0 : List Value} {us us' : List va_W} {u u' : va_W}
theorem g_newi (C : MC own cc nL rt G A p s m args meth c) (h : HP G A s us H locs) (harr : Cond.arrayClass .int ∈ gt) {n : Int32} {N' : Nat} (hn : n = nI N' ∧ N' < 1000) (hcells : cells + 1 ≤ R.cells) (hslots : slots + N' ≤ R.slots) (hdg : decode cc pc = .ok (.newarray .int, 2))
    (kk : ∀ (q : Nat) (H1 : Heap), HP G A s (us ++ [[(q, .inl (G.2.1 0, N', .inl (fun _ => 0)))]]) H1 locs → W p l e R s m args below meth c H1 locs (cells + 1) (slots + N') Q (F0 m (pc + 2) ls (.ref q :: rest))) : W p l e R s m args below meth c H locs cells slots Q (F0 m pc ls (.int n :: rest)) := by
  have h1 : ¬ n < 0 := by rw [hn.1]; exact nI_pos (by omega)
  have h2 : n.toNatClampNeg = N' := by rw [hn.1]; exact nI_clamp (by omega)
  have h3 : N' * componentBytes .int ≤ 536870912 := by
    have e : componentBytes .int = 4 := by decide
    rw [e]; omega
  refine va_newa (atype := .int) C.hx C.hb (C.hts _ harr) (ty := .int) rfl C.hK h.1 h.2.1 h.2.2 C.hA (N' := N') (a0 := (N', .inl (fun _ => 0))) (fun cA => rfl) h1 h2 h3 hcells hslots hdg (fun q cA H1 hK hP hD hS => ?_)
  have e1 : s.vm.findClass ("[" ++ FieldType.int.toString) = some cA := (hK.2 3 _ rfl).2
  have e2 : s.vm.findClass ("[" ++ FieldType.int.toString) = some (G.2.1 0) := (C.hK.2 0 _ rfl).2
  cases Option.some.inj (e1.symm.trans e2)
  exact kk q H1 ⟨by rw [fl_app]; exact hP, by rw [fl_app]; exact hD, hS⟩
theorem g_newz (C : MC own cc nL rt G A p s m args meth c) (h : HP G A s us H locs) (harr : Cond.arrayClass .boolean ∈ gt) {n : Int32} {N' : Nat} (hn : n = nI N' ∧ N' < 1000) (hcells : cells + 1 ≤ R.cells) (hslots : slots + N' ≤ R.slots) (hdg : decode cc pc = .ok (.newarray .boolean, 2))
    (kk : ∀ (q : Nat) (H1 : Heap), HP G A s (us ++ [[(q, .inl (G.2.1 1, N', .inl (fun _ => 0)))]]) H1 locs → W p l e R s m args below meth c H1 locs (cells + 1) (slots + N') Q (F0 m (pc + 2) ls (.ref q :: rest))) : W p l e R s m args below meth c H locs cells slots Q (F0 m pc ls (.int n :: rest)) := by
  have h1 : ¬ n < 0 := by rw [hn.1]; exact nI_pos (by omega)
  have h2 : n.toNatClampNeg = N' := by rw [hn.1]; exact nI_clamp (by omega)
  have h3 : N' * componentBytes .boolean ≤ 536870912 := by
    have e : componentBytes .boolean = 1 := by decide
    rw [e]; omega
  refine va_newa (atype := .boolean) C.hx C.hb (C.hts _ harr) (ty := .boolean) rfl C.hK h.1 h.2.1 h.2.2 C.hA (N' := N') (a0 := (N', .inl (fun _ => 0))) (fun cA => rfl) h1 h2 h3 hcells hslots hdg (fun q cA H1 hK hP hD hS => ?_)
  have e1 : s.vm.findClass ("[" ++ FieldType.boolean.toString) = some cA := (hK.2 3 _ rfl).2
  have e2 : s.vm.findClass ("[" ++ FieldType.boolean.toString) = some (G.2.1 1) := (C.hK.2 1 _ rfl).2
  cases Option.some.inj (e1.symm.trans e2)
  exact kk q H1 ⟨by rw [fl_app]; exact hP, by rw [fl_app]; exact hD, hS⟩
theorem g_new (C : MC own cc nL rt G A p s m args meth c) (h : HP G A s us H locs) {index ci : Nat} {Cn : String} {T : u_T} {N : Nat} {ty : Nat → FieldType} (fc : FC ci Cn T N ty) (hl1 : Cond.classLink own index Cn ∈ gt) (hl2 : Cond.instantiable Cn N ∈ gt) (hl3 : Cond.initialized Cn ∈ gt) {fs : List Value} (hfs : ∀ j, j < N → defaultValue (ty j) = vp_V fs j) (hcells : cells + 1 ≤ R.cells) (hslots : slots + N ≤ R.slots) (hdg : decode cc pc = .ok (.new index, 3))
    (kk : ∀ (q : Nat) (H1 : Heap), HP G A s (us ++ [[(q, .inr (ci, fs))]]) H1 locs → W p l e R s m args below meth c H1 locs (cells + 1) (slots + N) Q (F0 m (pc + 3) ls (.ref q :: rest))) : W p l e R s m args below meth c H locs cells slots Q (F0 m pc ls rest) := by
  obtain ⟨f1, f2, f3, f4⟩ := fc
  exact va_new C.hx C.hb C.hts f2 ty f3 C.hown (C.hts _ hl1) (C.hts _ hl2) (C.hts _ hl3) C.hK h.1 h.2.1 h.2.2 C.hA f1 hfs hcells hslots hdg (fun q H1 hP hD hS => kk q H1 ⟨by rw [fl_app]; exact hP, by rw [fl_app]; exact hD, hS⟩)
theorem g_putF (C : MC own cc nL rt G A p s m args meth c) (hin : meth.name = "<init>") (h : HP G A s us H locs) {index ci k a : Nat} {t : FieldType} (fp : FPF own index ci k t) (i j : Nat) (hu : us[i]? = some u) {fs : List Value} (hc : u[j]? = some (a, .inr (ci, fs))) {v : Value} (hn : narrow t v = v) (hfit : fits t v = true) (hl : k < fs.length) (hdg : decode cc pc = .ok (.putfield index, 3)) (hu' : u.set j (a, .inr (ci, fs.set k v)) = u') (hus : us.set i u' = us')
    (kk : ∀ (H1 : Heap) (locs1 : List Loc), HP G A s us' H1 locs1 → W p l e R s m args below meth c H1 locs1 cells slots Q (F0 m (pc + 3) ls rest)) : W p l e R s m args below meth c H locs cells slots Q (F0 m pc ls (v :: .ref a :: rest)) := by
  obtain ⟨Cn, T, N, ty, ⟨f1, f2, f3, f4⟩, hk, hl2, hf, ho, ht⟩ := fp
  obtain ⟨q0, hq, hset⟩ := fl_at us i j u _ hu hc
  refine va_putF C.hx C.hb C.hts f2 ty f3 f4 C.hown C.hK h.1 h.2.1 h.2.2 q0 hq f1 k hk (C.hts _ hl2) (fun _ h9 => h9) hf hin ho (ty := t) (by rw [← ht]; exact f3 k hk) hn hfit hl hdg (fun H1 locs1 g1 g2 g3 => kk H1 locs1 ?_)
  rw [hset, hu', hus] at g1 g2
  exact ⟨g1, g2, g3⟩
variable {y : MethodName} {bytes : ByteArray} {maxL index n d mc ms b i : Nat} {As : List Value} {av : List Value} {u0 : va_W} {u1 : (Nat → Nat) → va_W} {nu : (Nat → Nat) → List va_W}
theorem g_goK (C : MC own cc nL rt G A p s m args meth c) (h : HP G A s us H locs) {a : Array Value} (hm : ∀ q, (u1 q).map Prod.fst = u0.map Prod.fst) (hu : us[i]? = some u0) (hrun : va_Run p l e R s m args below meth c H locs cells slots mc ms (F0 m pc ls st0) rest (va_Qv (fun (_ : Nat → Nat) => True) (fun q t => va_P G.1 vwCl ([u1 q] ++ nu q).flatten t.heap ∧ va_D (va_A [u0].flatten H.size) ([u1 q] ++ nu q).flatten) (va_A [u0].flatten H.size) a) (va_A [u0].flatten H.size))
    (kk : ∀ (q : Nat → Nat) (H1 : Heap) (locs1 : List Loc), HP G A s (us.set i (u1 q) ++ nu q) H1 locs1 → W p l e R s m args below meth c H1 locs1 (cells + mc) (slots + ms) Q (F0 m (pc + 3) ls rest)) : W p l e R s m args below meth c H locs cells slots Q (F0 m pc ls st0) := by
  have hC := fl_pre us i u0 hu
  have hF := us_free h.2.1 h.2.2 C.hA hC
  refine va_callv hrun h.2.2 (fun q _ hq => hF q hq) hF (fun q t H1 locs1 ht hvm hp hB hz hk hS => ?_)
  obtain ⟨g1, g2⟩ := us_grow h.1 h.2.1 hu (hm q) hF hk (by rw [← ht]; exact hB.1) hB.2
  exact kk q H1 locs1 ⟨g1, g2, hS⟩
theorem g_runI (C : MC own cc nL rt G A p s m args meth c) (h : HP G A s us H locs) (hu : us[i]? = some u0) (hM : MK l y bytes maxL d mc ms (.ref b :: As) G u0 u1 nu) (hl1 : Cond.methodLink own index y ∈ gt) (hl2 : Cond.instanceMethod y ∈ gt) (hl3 : Cond.initialized y.cls ∈ gt) (hl4 : Cond.code y bytes maxL none ∈ gt) (hy : y.name = "<init>") (hd : y.cls ≠ "java/lang/invoke/MethodHandle" ∧ y.cls ≠ "java/lang/invoke/VarHandle" ∧ (parseMethodDescriptor y.desc).map (fun d => d.parameters.length) = some n) (hsize : ls.size = nL) (hln : As.length = n) (hst : st0 = As.reverse ++ .ref b :: rest) (hW : (rest.map fun v => v.category).sum ≤ 8) (hdg : decode cc pc = .ok (.invokespecial index, 3)) (hR : d + 1 ≤ R.frames ∧ 8 + (maxL + 11) + 60 * d ≤ R.locals) (hf : cells + mc ≤ R.cells ∧ slots + ms ≤ R.slots) :
    va_Run p l e R s m args below meth c H locs cells slots mc ms (F0 m pc ls st0) rest (va_Qv (fun (_ : Nat → Nat) => True) (fun q t => va_P G.1 vwCl ([u1 q] ++ nu q).flatten t.heap ∧ va_D (va_A [u0].flatten H.size) ([u1 q] ++ nu q).flatten) (va_A [u0].flatten H.size) (Value.ref b :: As).toArray) (va_A [u0].flatten H.size) :=
  va_runI C.fix (hM.2 H.size) (cwI n C.hts (goodIn_gt hl4) rfl rfl rfl (C.hts _ hl3) (C.hts _ hl1) (C.hts _ hl2) hy hd hR) ⟨CP.blind, g_pre C h (is := [i]) rfl (fl_pre us i u0 hu)⟩ rfl hln hsize hst (lv_room hW) hdg hf
theorem g_runJ (C : MC own cc nL rt G A p s m args meth c) (h : HP G A s us H locs) (hu : us[i]? = some u0) (hM : MK l y bytes maxL d mc ms (.ref b :: As) G u0 u1 nu) (hl1 : (own, index, y, "OneBell") ∈ nestL) (hl2 : Cond.instanceMethod y ∈ gt) (hl3 : Cond.initialized y.cls ∈ gt) (hl4 : Cond.code y bytes maxL none ∈ gt) (hy : y.name = "<init>") (hd : y.cls ≠ "java/lang/invoke/MethodHandle" ∧ y.cls ≠ "java/lang/invoke/VarHandle" ∧ (parseMethodDescriptor y.desc).map (fun d => d.parameters.length) = some n) (hsize : ls.size = nL) (hln : As.length = n) (hst : st0 = As.reverse ++ .ref b :: rest) (hW : (rest.map fun v => v.category).sum ≤ 8) (hdg : decode cc pc = .ok (.invokespecial index, 3)) (hR : d + 1 ≤ R.frames ∧ 8 + (maxL + 11) + 60 * d ≤ R.locals) (hf : cells + mc ≤ R.cells ∧ slots + ms ≤ R.slots) :
    va_Run p l e R s m args below meth c H locs cells slots mc ms (F0 m pc ls st0) rest (va_Qv (fun (_ : Nat → Nat) => True) (fun q t => va_P G.1 vwCl ([u1 q] ++ nu q).flatten t.heap ∧ va_D (va_A [u0].flatten H.size) ([u1 q] ++ nu q).flatten) (va_A [u0].flatten H.size) (Value.ref b :: As).toArray) (va_A [u0].flatten H.size) :=
  va_runIN C.fix (hM.2 H.size) ⟨va_cnB n C.hts (goodIn_gt hl4) rfl rfl rfl (C.ev.2.1 _ hl1) (C.hts _ hl3) hd hR, hy, C.hts _ hl2⟩ ⟨CP.blind, g_pre C h (is := [i]) rfl (fl_pre us i u0 hu)⟩ rfl hln hsize hst (lv_room hW) hdg hf
theorem g_ret_k (C : MC own cc nL none G A p s m args meth c) (h : HP G A s us H locs) (q : Nat → Nat) (hus : us.flatten = ([u1 q] ++ nu q).flatten) (hdg : decode cc pc = .ok (.return_, 1)) : W p l e R s m args below meth c H locs mc ms (QK below G A args s mc ms u1 nu) (F0 m pc ls []) := by
  refine W.vret C.hx C.hb C.hr (fun t ht _ => ⟨⟨q, rfl, trivial, ?_, ?_⟩, h.2.2.F ht⟩) h.2.2.2.2 hdg C.hk
  · rw [← hus]; exact at_H ht h.1
  · rw [← hus]; exact h.2.1
theorem g_obj (C : MC own cc nL rt G A p s m args meth c) (hsize : ls.size = nL) {a : Nat} (hl1 : Cond.methodLink own index Lib.objectInit ∈ gt) (hl2 : Cond.instanceMethod Lib.objectInit ∈ gt) (hl3 : Cond.code Lib.objectInit ⟨#[0xb1]⟩ 1 none ∈ gt) (hdg : decode cc pc = .ok (.invokespecial index, 3)) (hR : 1 ≤ R.frames ∧ 20 ≤ R.locals) (hW : (rest.map fun v => v.category).sum ≤ 8)
    (kk : W p l e R s m args below meth c H locs cells slots Q (F0 m (pc + 3) ls rest)) : W p l e R s m args below meth c H locs cells slots Q (F0 m pc ls (.ref a :: rest)) := by
  have h8 := lv_room (m := m) (pc := pc) (ls := ls) (rest := .ref a :: rest) hW
  refine W.objInit C.hx C.hb C.hown (C.hts _ hl1) (C.hts _ hl2) (C.hts _ hl3) rfl (hsize.trans C.hml.symm) rfl hdg hR.1 (Nat.le_trans (Nat.add_le_add_right h8 12) hR.2) kk
end KNEW
theorem ac_int : Cond.arrayClass .int ∈ gt := gt_of 115 (by decide +kernel) rfl
theorem ac_bool : Cond.arrayClass .boolean ∈ gt := gt_of 302 (by decide +kernel) rfl
theorem ob_i : Cond.instanceMethod Lib.objectInit ∈ gt := gt_of 27 (by decide +kernel) rfl
theorem ob_c : Cond.code Lib.objectInit ⟨#[0xb1]⟩ 1 none ∈ gt := gt_of 28 (by decide +kernel) rfl
