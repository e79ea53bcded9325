/-! calls that may make cells: the callee's units come back, perhaps grown -/
theorem va_D_of_pw {A : Nat → Prop} {ws : va_W} (h : ws.Pairwise (fun p q => p.1 ≠ q.1)) (hA : ∀ q ∈ ws, A q.1) : va_D A ws := by
  refine ⟨fun i j x y hi hj hxy => ?_, fun k q hk => hA q (List.mem_of_getElem? hk)⟩
  rw [List.pairwise_iff_getElem] at h
  obtain ⟨li, ei⟩ := List.getElem?_eq_some_iff.mp hi
  obtain ⟨lj, ej⟩ := List.getElem?_eq_some_iff.mp hj
  rcases Nat.lt_trichotomy i j with hlt | he | hlt
  · exact absurd (by rw [ei, ej]; exact hxy) (h i j li lj hlt)
  · exact he
  · exact absurd (by rw [ei, ej]; exact hxy.symm) (h j i lj li hlt)
theorem us_joinG {A : Nat → Prop} {D : va_G} {cl : List vw_C} {us uc uc' : List va_W} {is : List Nat} {H H1 : Heap} (hP : va_P D cl us.flatten H) (hD : va_D A us.flatten) (hC : is.map (fun i => us[i]?) = uc.map some) (hl : uc'.length = uc.length) (hF : ∀ q, va_A uc.flatten H.size q → A q)
    (hk : ∀ q : Nat, q < H.size → ¬ va_A uc.flatten H.size q → H1[q]? = H[q]?) (hP1 : va_P D cl uc'.flatten H1) (hD1 : va_D (va_A uc.flatten H.size) uc'.flatten) : va_P D cl (rpU us is uc').flatten H1 ∧ va_D A (rpU us is uc').flatten := by
  have hlen : is.length = uc'.length := by
    have h1 := congrArg List.length hC
    simp only [List.length_map] at h1
    omega
  have kept : ∀ {j : Nat} {u : va_W} {q : Nat × va_E}, j ∉ is → us[j]? = some u → q ∈ u → q.1 < H.size ∧ ¬ va_A uc.flatten H.size q.1 := by
    intro j u q h1 h2 hqu
    have h0 := hP.mem (us_mem h2 hqu)
    refine ⟨h0.lt, ?_⟩
    rintro (⟨k, e, hke⟩ | hge)
    · obtain ⟨u2, hu2, hq2⟩ := List.mem_flatten.mp (List.mem_of_getElem? hke)
      obtain ⟨k2, hk2⟩ := List.getElem?_of_mem hu2
      obtain ⟨i, h3, h4⟩ := at_is hC hk2
      exact fl_apart hD h2 h4 (fun e => h1 (by rw [e]; exact List.mem_of_getElem? h3)) hqu hq2 rfl
    · have := h0.lt
      omega
  have inA : ∀ {k : Nat} {u : va_W} {q : Nat × va_E}, uc'[k]? = some u → q ∈ u → va_A uc.flatten H.size q.1 := by
    intro k u q h1 h2
    obtain ⟨n, hn⟩ := List.getElem?_of_mem (us_mem h1 h2)
    exact hD1.2 n q hn
  refine ⟨va_P.ofMem fun q hq => ?_, va_D_of_pw ?_ ?_⟩
  · obtain ⟨u, hu, hqu⟩ := List.mem_flatten.mp hq
    obtain ⟨j, hj⟩ := List.getElem?_of_mem hu
    rcases rpU_get is uc' us hlen j u hj with ⟨k, h1, h2⟩ | ⟨h1, h2⟩
    · exact hP1.mem (us_mem h2 hqu)
    · obtain ⟨g1, g2⟩ := kept h1 h2 hqu
      exact (hP.mem (us_mem h2 hqu)).kept (hk q.1 g1 g2)
  · rw [List.pairwise_flatten]
    refine ⟨fun u hu => ?_, ?_⟩
    · obtain ⟨j, hj⟩ := List.getElem?_of_mem hu
      rcases rpU_get is uc' us hlen j u hj with ⟨k, h1, h2⟩ | ⟨h1, h2⟩
      · exact (List.pairwise_flatten.mp (va_D_pw hD1)).1 u (List.mem_of_getElem? h2)
      · exact (List.pairwise_flatten.mp (va_D_pw hD)).1 u (List.mem_of_getElem? h2)
    · rw [List.pairwise_iff_getElem]
      intro a b ha hb hab x hx y hy
      rcases rpU_get is uc' us hlen a _ (List.getElem?_eq_getElem ha) with ⟨k, h1, h2⟩ | ⟨h1, h2⟩ <;> rcases rpU_get is uc' us hlen b _ (List.getElem?_eq_getElem hb) with ⟨k2, h3, h4⟩ | ⟨h3, h4⟩
      · refine fl_apart hD1 h2 h4 (fun e => ?_) hx hy
        subst e
        have := Option.some.inj (h1.symm.trans h3)
        omega
      · exact fun e => (kept h3 h4 hy).2 (by rw [← e]; exact inA h2 hx)
      · exact fun e => (kept h1 h2 hx).2 (by rw [e]; exact inA h4 hy)
      · exact fl_apart hD h2 h4 (by omega) hx hy
  · intro q hq
    obtain ⟨u, hu, hqu⟩ := List.mem_flatten.mp hq
    obtain ⟨j, hj⟩ := List.getElem?_of_mem hu
    rcases rpU_get is uc' us hlen j u hj with ⟨k, h1, h2⟩ | ⟨h1, h2⟩
    · exact hF _ (inA h2 hqu)
    · obtain ⟨n, hn⟩ := List.getElem?_of_mem (us_mem h2 hqu)
      exact hD.2 n q hn
/-- a contract with new cells: int -/
def MJ (l : Launch) (y : MethodName) (cc : ByteArray) (maxL : Nat) (ret : Option FieldType) (d mc ms : Nat) (av : List Value) (G : GG) (us : List va_W) (r : Int32) (us' : (Nat → Nat) → List va_W) : Prop :=
  (∀ q, (us' q).length = us.length) ∧ ∀ sz, Met l y (wdm y cc maxL ret) (rmk d mc ms) (va_Pc av (CP G us sz)) (va_Qi (fun x (_ : Nat → Nat) => x = r) (fun q t => va_P G.1 vwCl (us' q).flatten t.heap ∧ va_D (va_A us.flatten sz) (us' q).flatten) (va_A us.flatten sz)) mc ms (va_A us.flatten sz)
def QJ (below : List Frame) (G : GG) (A : Nat → Prop) (args : Array Value) (s : State) (mc ms : Nat) (r : Int32) (us' : (Nat → Nat) → List va_W) : State → Prop := MQ below (va_Qi (fun x (_ : Nat → Nat) => x = r) (fun q t => va_P G.1 vwCl (us' q).flatten t.heap ∧ va_D A (us' q).flatten) A) args s mc ms A
theorem MJ.intro {l : Launch} {y : MethodName} {cc : ByteArray} {maxL d mc ms : Nat} {ret : Option FieldType} {av : List Value} {G : GG} {us : List va_W} {r : Int32} {us' : (Nat → Nat) → List va_W} (hy : plainName y.cls = true) (hm : ∀ q, (us' q).length = us.length) (hlen : (lg_sl av).length ≤ maxL)
    (body : ∀ (p : Program) (e : Env) (s : State) (m : MethodId) (args : Array Value) (below : List Frame) (meth : Method) (c : Code) (A : Nat → Prop) (ls : Array Slot), MC y.cls cc maxL ret G A p s m args meth c → HP G A s us s.heap [] → lv_has ls maxL (lv_args 0 av) → W p l e (rmk d mc ms) s m args below meth c s.heap [] 0 0 (QJ below G A args s mc ms r us') (F0 m 0 ls [])) : MJ l y cc maxL ret d mc ms av G us r us' := by
  refine ⟨hm, fun sz => Met.ofW (cc := cc) (maxL := maxL) (ret := ret) hy rfl ?_⟩
  intro p e s m args below meth c s₁ B hml hv
  have hts := atoms_spec (ws := wdm y cc maxL ret) B.pre
  obtain ⟨h1, h2, h3, h4, h5, h6⟩ := hv
  subst h1; subst h2
  exact ls_of hlen (P := fun g => W p l e (rmk d mc ms) s m av.toArray below meth c s.heap [] 0 0 _ g) fun ls hl => body p e s m _ below meth c _ ls ⟨B.exec, B.bytes, B.returns, hml, findClass_of_methodNamed B.named, fun w hw => hts w (List.mem_cons_of_mem _ hw), h4, h5, fun q h => Or.inr h, B.notSynchronized⟩ ⟨h3, h6.self, va_S.rf⟩ hl
section KJ
variable {own : String} {cc : ByteArray} {nL : Nat} {rt : Option FieldType} {G : GG} {A : Nat → Prop} {p : Program} {l : Launch} {e : Env} {R : Room} {s : State} {m : MethodId} {args : Array Value} {below : List Frame} {meth : Method} {c : Code} {H : Heap} {locs : List Loc} {cells slots : Nat} {Q : State → Prop} {pc : Nat} {ls : Array Slot} {rest st0 : List Value} {us us2 : List va_W} {u u' : va_W} {is : List Nat} {uc : List va_W} {uc' us' : (Nat → Nat) → List va_W} {mc ms : Nat}
theorem g_goJ (C : MC own cc nL rt G A p s m args meth c) (h : HP G A s us H locs) {r : Int32} {a : Array Value} (hm : ∀ q, (uc' q).length = uc.length) (hC : is.map (fun i => us[i]?) = uc.map some) (hrun : va_Run p l e R s m args below meth c H locs cells slots mc ms (F0 m pc ls st0) rest (va_Qi (fun x (_ : Nat → Nat) => x = r) (fun q t => va_P G.1 vwCl (uc' q).flatten t.heap ∧ va_D (va_A uc.flatten H.size) (uc' q).flatten) (va_A uc.flatten H.size) a) (va_A uc.flatten H.size))
    (kk : ∀ (q : Nat → Nat) (H1 : Heap) (locs1 : List Loc), HP G A s (rpU us is (uc' q)) H1 locs1 → W p l e R s m args below meth c H1 locs1 (cells + mc) (slots + ms) Q (F0 m (pc + 3) ls (.int r :: rest))) : W p l e R s m args below meth c H locs cells slots Q (F0 m pc ls st0) := by
  have hF := us_free h.2.1 h.2.2 C.hA hC
  refine va_calli hrun h.2.2 (fun q _ hq => hF q hq) hF (fun x q t H1 locs1 ht hvm hp hB hz hk hS => ?_)
  subst hp
  obtain ⟨g1, g2⟩ := us_joinG h.1 h.2.1 hC (hm q) hF hk (by rw [← ht]; exact hB.1) hB.2
  exact kk q H1 locs1 ⟨g1, g2, hS⟩
theorem g_ret_j (C : MC own cc nL (some .int) G A p s m args meth c) (h : HP G A s us H locs) {x r : Int32} (hr : x = r) (q : Nat → Nat) (hus : us.flatten = (us' q).flatten) (hdg : decode cc pc = .ok (.ireturn, 1)) : W p l e R s m args below meth c H locs mc ms (QJ below G A args s mc ms r us') (F0 m pc ls [.int x]) := by
  subst hr
  refine W.iret C.hx C.hb C.hr (fun t ht _ => ⟨⟨x, q, rfl, rfl, ?_, ?_⟩, h.2.2.F ht⟩) h.2.2.2.2 hdg C.hk
  · rw [← hus]; exact at_H ht h.1
  · rw [← hus]; exact h.2.1
theorem g_aald (C : MC own cc nL rt G A p s m args meth c) (h : HP G A s us H locs) (i j : Nat) (hu : us[i]? = some u) {a n : Nat} {f : Nat → Option Nat} (hc : u[j]? = some (a, .inl (G.2.1 2, n, .inr (.inr (.inr (.inr f)))))) {x : Int32} (hin : vp_in x n) {v : Value} (hv : va_rf (f x.toNatClampNeg) = v) (hdg : decode cc pc = .ok (.aaload, 1))
    (kk : W p l e R s m args below meth c H locs cells slots Q (F0 m (pc + 1) ls (v :: rest))) : W p l e R s m args below meth c H locs cells slots Q (F0 m pc ls (.int x :: .ref a :: rest)) := by
  subst hv
  obtain ⟨q0, hq, -⟩ := fl_at us i j u _ hu hc
  exact va_aldq C.hx C.hb C.hK h.1 q0 2 hq rfl hin hdg kk
theorem g_aast (C : MC own cc nL rt G A p s m args meth c) (h : HP G A s us H locs) (i j : Nat) (hu : us[i]? = some u) {a n : Nat} {f : Nat → Option Nat} (hc : u[j]? = some (a, .inl (G.2.1 2, n, .inr (.inr (.inr (.inr f)))))) (i2 j2 : Nat) {w : va_W} (hw : us[i2]? = some w) {o : Nat} {vs : List Value} (hv : w[j2]? = some (o, .inr (9, vs))) {x : Int32} (hin : vp_in x n) (hdg : decode cc pc = .ok (.aastore, 1)) (hu' : u.set j (a, .inl (G.2.1 2, n, .inr (.inr (.inr (.inr (va_up f x.toNatClampNeg (some o))))))) = u') (hus : us.set i u' = us2)
    (kk : ∀ (H1 : Heap) (locs1 : List Loc), HP G A s us2 H1 locs1 → W p l e R s m args below meth c H1 locs1 cells slots Q (F0 m (pc + 1) ls rest)) : W p l e R s m args below meth c H locs cells slots Q (F0 m pc ls (.ref o :: .int x :: .ref a :: rest)) := by
  obtain ⟨q0, hq, hset⟩ := fl_at us i j u _ hu hc
  obtain ⟨q1, hq1, -⟩ := fl_at us i2 j2 w _ hw hv
  refine va_astq C.hx C.hb C.hK h.1 h.2.1 h.2.2 q0 2 q1 9 (r := (RX9, TX9, 17)) hq rfl hq1 rfl hin hdg (fun H1 locs1 g1 g2 g3 => kk H1 locs1 ?_)
  rw [hset, hu', hus] at g1 g2
  exact ⟨g1, g2, g3⟩
end KJ
def uG (G : GG) (o : Nat) (f : Nat → Option Nat) : va_W := [(o, .inl (G.2.1 2, 2, .inr (.inr (.inr (.inr f)))))]
