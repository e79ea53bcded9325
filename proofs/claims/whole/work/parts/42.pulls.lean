/-! pulls: would, moves, pull, both -/
def sft (a : AV) : AV := (fun k => if k = 15 then 9 else a.1 k, fun k => if k = 16 then (fun i => a.2 16 (i + 1)) else a.2 k)
def rmb (a : AV) : AV := (fun k => if k = 15 then a.1 15 + 1 else a.1 k, fun k => if k = 16 then updN (a.2 16) (a.1 15) (a.1 7) else a.2 k)
def opn (a : AV) (o : Nat) : AV := (fun k => if k = 7 then o else a.1 k, a.2)
theorem Valid.sft {a : AV} (hv : Valid a) (h : a.1 15 = 10) : Valid (sft a) := by
  obtain ⟨v0, v1, v2, v3, v4, v5, v6, v7, v8, v9, v10⟩ := hv
  exact ⟨v0, v1, v2, v3, v4, v5, by show 9 ≤ 10; omega, v7, v8, v9, fun i hi => v10 (i + 1) (by have hi : i < 9 := hi; omega)⟩
theorem Valid.rmb {a : AV} (hv : Valid a) (h : a.1 15 < 10) : Valid (rmb a) := by
  obtain ⟨v0, v1, v2, v3, v4, v5, v6, v7, v8, v9, v10⟩ := hv
  exact ⟨v0, v1, v2, v3, v4, v5, by show a.1 15 + 1 ≤ 10; omega, v7, v8, v9, fun i hi => upN_app (P := fun x => x < 2 ^ a.1 0) v10 v3 i hi⟩
theorem Valid.opn {a : AV} (hv : Valid a) {o : Nat} (h : o < 2 ^ a.1 0) : Valid (opn a o) := by
  obtain ⟨v0, v1, v2, v3, v4, v5, v6, v7, v8, v9, v10⟩ := hv
  exact ⟨v0, v1, v2, h, v4, v5, v6, v7, v8, v9, v10⟩
theorem RX.sft {v : US} {a : AV} (hx : RX v a) (h : a.1 15 = 10) : RX (upi (upr v 16 (va_cpy (v.2.2 16) (v.2.2 16) 1 0 9)) 15 9) (sft a) := by
  obtain ⟨x0, x1, x2, x3, x4, x5, x6, x7, x8, x9, x10⟩ := hx
  refine ⟨x0, x1, x2, x3, x4, x5, rfl, x7, x8, x9, fun i hi => ?_⟩
  have hi : i < 9 := hi
  show va_cpy (v.2.2 16) (v.2.2 16) 1 0 9 i = nI (a.2 16 (i + 1))
  rw [pk_cpy_in (Nat.zero_le _) (by omega), show 1 + (i - 0) = i + 1 by omega]
  exact x10 (i + 1) (by omega)
theorem RX.rmb {v : US} {a : AV} (hx : RX v a) : RX (upi (upa v 16 (a.1 15) (nI (a.1 7))) 15 (nI (a.1 15 + 1))) (rmb a) := by
  obtain ⟨x0, x1, x2, x3, x4, x5, x6, x7, x8, x9, x10⟩ := hx
  refine ⟨x0, x1, x2, x3, x4, x5, rfl, x7, x8, x9, fun i hi => ?_⟩
  exact up_app x10 i hi
theorem RX.opn {v : US} {a : AV} (hx : RX v a) {o : Nat} : RX (upi v 7 (nI o)) (opn a o) := by
  obtain ⟨x0, x1, x2, x3, x4, x5, x6, x7, x8, x9, x10⟩ := hx
  exact ⟨x0, x1, x2, rfl, x4, x5, x6, x7, x8, x9, x10⟩
theorem RM.opn {w : Nat → Int32} {a : AV} (hv : Valid a) (hm : RM w a) {o : Nat} : RM (upd w 27 (nI o)) (opn a o) := by
  obtain ⟨v0, v1, v2, v3, v4, v5, v6, -, -, -, -⟩ := hv
  obtain ⟨m0, m1, m2, m3, m4, m5, m6, m7, m8, m9⟩ := hm
  refine ⟨un m0 (by omega), un m1 (by omega), pk_us, un m3 (by omega), un m4 (by omega), un m5 (by omega), fun i hi => ?_, fun i hi => ?_, fun i hi => ?_, fun i hi => ?_⟩
  · have hi : i < a.1 0 := hi
    have q := m6 i hi
    exact ⟨un q.1 (by omega), un q.2.1 (by omega), un q.2.2.1 (by omega), un q.2.2.2.1 (by omega), un q.2.2.2.2 (by omega)⟩
  · have hi : i < a.1 8 := hi
    have q := m7 i hi
    exact ⟨un q.1 (by omega), un q.2 (by omega)⟩
  · have hi : i < a.1 11 := hi
    have q := m8 i hi
    exact ⟨un q.1 (by omega), un q.2.1 (by omega), un q.2.2 (by omega)⟩
  · exact un (m9 i hi) (by omega)
theorem RM.past {w W : Nat → Int32} {a b : AV} (hv : Valid a) (hm : RM w a) (e1 : ∀ k, k ≠ 15 → b.1 k = a.1 k) (e2 : ∀ k, k ≠ 16 → b.2 k = a.2 k) (h1 : ∀ j, j < 52 → W j = w j) (h2 : W 52 = nI (b.1 15)) (h3 : ∀ i, i < b.1 15 → W (53 + i) = nI (b.2 16 i)) : RM W b := by
  obtain ⟨v0, v1, v2, v3, v4, v5, v6, -, -, -, -⟩ := hv
  obtain ⟨m0, m1, m2, m3, m4, m5, m6, m7, m8, m9⟩ := hm
  have u : ∀ {j : Nat} {x : Int32}, w j = x → j < 52 → W j = x := fun h hj => (h1 _ hj).trans h
  rw [← e1 0 (by decide)] at v0 m0 m6
  rw [← e1 8 (by decide)] at v4 m3 m7
  rw [← e1 11 (by decide)] at v5 m4 m8
  rw [← e1 6 (by decide)] at m1
  rw [← e1 7 (by decide)] at m2
  rw [← e1 5 (by decide), ← e2 1 (by decide), ← e2 2 (by decide), ← e2 3 (by decide), ← e2 4 (by decide)] at m6
  rw [← e2 9 (by decide), ← e2 10 (by decide)] at m7
  rw [← e2 12 (by decide), ← e2 13 (by decide), ← e2 14 (by decide)] at m8
  refine ⟨u m0 (by omega), u m1 (by omega), u m2 (by omega), u m3 (by omega), u m4 (by omega), h2, fun i hi => ?_, fun i hi => ?_, fun i hi => ?_, h3⟩
  · have q := m6 i hi
    exact ⟨u q.1 (by omega), u q.2.1 (by omega), u q.2.2.1 (by omega), u q.2.2.2.1 (by omega), u q.2.2.2.2 (by omega)⟩
  · have q := m7 i hi
    exact ⟨u q.1 (by omega), u q.2 (by omega)⟩
  · have q := m8 i hi
    exact ⟨u q.1 (by omega), u q.2.1 (by omega), u q.2.2 (by omega)⟩
theorem RM.rmb {w : Nat → Int32} {a : AV} (hv : Valid a) (hm : RM w a) (h : a.1 15 < 10) : RM (upd (upd w (53 + a.1 15) (nI (a.1 7))) 52 (nI (a.1 15 + 1))) (rmb a) := by
  refine RM.past hv hm (fun k hk => if_neg hk) (fun k hk => if_neg hk) (fun j hj => ?_) pk_us (fun i hi => ?_)
  · rw [pk_un (by omega), pk_un (by omega)]
  · have hi : i < a.1 15 + 1 := hi
    show upd _ 52 _ (53 + i) = nI (updN (a.2 16) (a.1 15) (a.1 7) i)
    rw [pk_un (by omega)]
    unfold upd updN
    by_cases c : i = a.1 15
    · rw [if_pos (by omega), if_pos c]
    · rw [if_neg (by omega), if_neg c]; exact hm.2.2.2.2.2.2.2.2.2 i (by omega)
theorem gp_b {N : Nat} (hN : 200000 ≤ N) {vm : US} {w : Nat → Int32} {a : AV} (hv : Valid a) (hm : RM w a) (h10 : a.1 15 < 10) {sl : Nat → Nat} {wh p n q m : Nat} (h : MPl vm (a.1 0) sl wh p n q m) : ∃ w', b_X12_goPull_55 N vm w = some (nI ((tvl sl wh p n + tvl sl wh q m) / 3), w') ∧ RM w' (opn (rmb a) (aft a sl wh p n q m (a.1 7))) := by
  have h5 := hv.1
  have hr := hm.rmb hv h10
  have hb := bh_m hN (hv.rmb h10) hr (o := a.1 7) h (lt32 h5 hv.2.2.2.1)
  have l1 := tvl_le sl wh p n
  have l2 := tvl_le sl wh q m
  have h9 := h.2.2.2.1.2.2.2
  have h8 := h.2.2.2.2.2.2
  refine ⟨_, ?_, RM.opn (hv.rmb h10) hr⟩
  have c52 : ∀ {α : Type} (k : Option α), (if (52 : Int32) < 0 ∨ 63 ≤ (52 : Int32).toNatClampNeg then none else k) = k := fun k => if_neg (by decide)
  have c27 : ∀ {α : Type} (k : Option α), (if (27 : Int32) < 0 ∨ 63 ≤ (27 : Int32).toNatClampNeg then none else k) = k := fun k => if_neg (by decide)
  unfold b_X12_goPull_55
  simp only [c52, c27, bnd_eq, show (52 : Int32).toNatClampNeg = 52 from by decide, show (27 : Int32).toNatClampNeg = 27 from by decide]
  have e : (53 : Int32) + w 52 = nI (53 + a.1 15) := by
    rw [hm.2.2.2.2.2.1, show (53 : Int32) = nI 53 from rfl, nI_add]
  rw [e, ck_in (by omega) (by decide), nI_clamp (by omega)]
  have e2 : upd w (53 + a.1 15) (w 27) 52 + 1 = nI (a.1 15 + 1) := by
    rw [pk_un (by omega), hm.2.2.2.2.2.1, nI_1]
  have e3 : upd (upd w (53 + a.1 15) (nI (a.1 7))) 52 (nI (a.1 15 + 1)) 27 = nI (a.1 7) := by
    rw [pk_un (by omega), pk_un (by omega)]; exact hm.2.2.1
  rw [e2, hm.2.2.1, e3, hb, bs, tr_m h5 h, bs, show (3 : Int32) = nI 3 from rfl, pk_div (by omega) (by decide) (by decide)]
  rfl
theorem gp_l {N : Nat} {vm : US} {w0 : Nat → Int32} : ∀ d i k w, i + d = 9 → d < k → (∀ j, j < 53 → w j = w0 j) → (∀ j, j < i → w (53 + j) = w0 (54 + j)) → (∀ j, i ≤ j → w (53 + j) = w0 (53 + j)) → ∃ W, f_X12_goPull_14 N k vm w (nI i) = b_X12_goPull_55 N vm (upd W 52 9) ∧ (∀ j, j < 53 → W j = w0 j) ∧ (∀ j, j < 9 → W (53 + j) = w0 (54 + j)) := by
  intro d
  induction d with
  | zero =>
    intro i k w hi hk h1 h2 h3
    obtain ⟨k, rfl⟩ : ∃ j, k = j + 1 := ⟨k - 1, by omega⟩
    have : i = 9 := by omega
    subst this
    refine ⟨w, ?_, h1, h2⟩
    show b_X12_goPull_14 N _ _ _ _ = _
    unfold b_X12_goPull_14
    rw [if_pos (by decide), if_neg (by decide)]
    rfl
  | succ d ih =>
    intro i k w hi hk h1 h2 h3
    obtain ⟨k, rfl⟩ : ∃ j, k = j + 1 := ⟨k - 1, by omega⟩
    have e : f_X12_goPull_14 N (k + 1) vm w (nI i) = f_X12_goPull_14 N k vm (upd w (53 + i) (w (54 + i))) (nI (i + 1)) := by
      show b_X12_goPull_14 N _ _ _ _ = _
      unfold b_X12_goPull_14
      rw [if_neg (show ¬ (9 : Int32) ≤ nI i from nI_nle2 (a := 9) (by omega) (by decide)), show (53 : Int32) = nI 53 from rfl, nI_add, nI_1, nI_1, ck_in (by omega) (by decide), ck_in (by omega) (by decide), nI_clamp (by omega), nI_clamp (by omega), show 53 + i + 1 = 54 + i by omega]
    rw [e]
    refine ih (i + 1) k _ (by omega) (by omega) (fun j hj => ?_) (fun j hj => ?_) (fun j hj => ?_)
    · rw [pk_un (by omega)]; exact h1 j hj
    · by_cases c : j = i
      · subst c
        rw [pk_us]
        have := h3 (j + 1) (by omega)
        rw [show 53 + (j + 1) = 54 + j by omega] at this
        exact this
      · rw [pk_un (by omega)]; exact h2 j (by omega)
    · rw [pk_un (by omega)]; exact h3 j (by omega)
theorem gp_m {N : Nat} (hN : 200000 ≤ N) {vm : US} {w : Nat → Int32} {a : AV} (hv : Valid a) (hm : RM w a) {sl : Nat → Nat} {wh p n q m : Nat} (h : MPl vm (a.1 0) sl wh p n q m) : ∃ w', f_X12_goPull N vm w = some (nI ((tvl sl wh p n + tvl sl wh q m) / 3), w') ∧ RM w' (opn (rmb (if a.1 15 = 10 then sft a else a)) (aft a sl wh p n q m (a.1 7))) := by
  have v6 := hv.2.2.2.2.2.2.1
  unfold f_X12_goPull
  rw [if_neg (by decide), show (52 : Int32).toNatClampNeg = 52 from by decide, hm.2.2.2.2.2.1]
  by_cases c : a.1 15 = 10
  · rw [if_pos c, c, if_pos (show nI 10 = 10 from rfl)]
    obtain ⟨W, e, h1, h2⟩ := gp_l (N := N) (vm := vm) (w0 := w) 9 0 N w (by omega) (by omega) (fun j _ => rfl) (fun j hj => absurd hj (Nat.not_lt_zero j)) (fun j _ => rfl)
    have e : f_X12_goPull_14 N N vm w 0 = b_X12_goPull_55 N vm (upd W 52 9) := e
    rw [e]
    have hr : RM (upd W 52 9) (sft a) := by
      refine RM.past hv hm (fun k hk => if_neg hk) (fun k hk => if_neg hk) (fun j hj => ?_) pk_us (fun i hi => ?_)
      · rw [pk_un (by omega)]; exact h1 j (by omega)
      · have hi : i < 9 := hi
        show upd _ 52 _ (53 + i) = nI (a.2 16 (i + 1))
        rw [pk_un (by omega), h2 i hi, show 54 + i = 53 + (i + 1) by omega]
        exact hm.2.2.2.2.2.2.2.2.2 (i + 1) (by omega)
    exact gp_b hN (hv.sft c) hr (by show 9 < 10; decide) h
  · rw [if_neg c, if_neg (show ¬ nI (a.1 15) = 10 from fun e => c ((nI_eq (b := 10) (by omega) (by decide)).mp e))]
    exact gp_b hN hv hm (by omega) h
theorem ds_x {vob v sw : US} {a : AV} (hv : Valid a) (hx : RX v a) {wh p n q m : Nat} (hn : n ≤ 20) (hm : m ≤ 20) (hs : SwF sw a wh p n q m) (h6 : sw.1 6 = nI (bsum (fun t => becN a (sdv a) wh p n q m t false != becN a (sdv a) wh p n q m t true) (a.1 0))) (h7 : sw.1 7 = nI (bsum (fun t => becN a (sdv a) wh p n q m t false) (a.1 0))) : ∃ v', f_X11_doSwing vob v sw = some (nI ((tvl (sdv a) wh p n + tvl (sdv a) wh q m) / 3), v') ∧ RX v' (opn (rmb (if a.1 15 = 10 then sft a else a)) (aft a (sdv a) wh p n q m (a.1 7))) := by
  have v6 := hv.2.2.2.2.2.2.1
  have l1 := tvl_le (sdv a) wh p n
  have l2 := tvl_le (sdv a) wh q m
  have hb := bh_x hv.1 hv.2.2.2.1 h6 h7
  have hr : ∀ {u : US} {b : AV}, RX u b → b.1 15 < 10 → b_X9_remember_30 u = some (upi (upa u 16 (b.1 15) (nI (b.1 7))) 15 (nI (b.1 15 + 1))) := fun {u b} hu hb => by
    unfold b_X9_remember_30
    rw [hu.2.2.2.2.2.2.1, ck_in hb (by decide), nI_clamp (by omega), hu.2.2.2.1, bnd_eq, nI_1]
  have fin : ∀ {u : US} {b : AV}, RX u b → b.1 15 < 10 → b.1 7 = a.1 7 → f_X9_remember v = b_X9_remember_30 u → ∃ v', f_X11_doSwing vob v sw = some (nI ((tvl (sdv a) wh p n + tvl (sdv a) wh q m) / 3), v') ∧ RX v' (opn (rmb b) (aft a (sdv a) wh p n q m (a.1 7))) := fun {u b} hu hb7 hb8 e => by
    unfold f_X11_doSwing
    rw [e, hr hu hb7, bs]
    have e7 : (upi (upa u 16 (b.1 15) (nI (b.1 7))) 15 (nI (b.1 15 + 1))).1 7 = nI (a.1 7) := by
      show u.1 7 = _
      rw [← hb8]; exact hu.2.2.2.1
    rw [e7, hb, bs]
    have e8 : f_X8_rings sw = some (nI ((tvl (sdv a) wh p n + tvl (sdv a) wh q m) / 3)) := by
      unfold f_X8_rings
      rw [hs.2.2.2.2, show (3 : Int32) = nI 3 from rfl, pk_div (by omega) (by decide) (by decide)]
    rw [e8, bs]
    exact ⟨_, rfl, RX.opn hu.rmb⟩
  by_cases c : a.1 15 = 10
  · rw [if_pos c]
    refine fin (hx.sft c) (by show 9 < 10; decide) rfl ?_
    unfold f_X9_remember
    rw [hx.2.2.2.2.2.2.1, c, if_neg (by decide)]
    rfl
  · rw [if_neg c]
    refine fin hx (by omega) rfl ?_
    unfold f_X9_remember
    rw [hx.2.2.2.2.2.2.1, if_pos (show nI (a.1 15) < 10 from nI_lt (b := 10) (by omega) (by decide))]
theorem sim_would {N : Nat} (hN : 200000 ≤ N) {vob vn : US} {tx : Nat → Int32} {i0 i1 : Option US} {vm : US} {w : Nat → Int32} (hI : Inv vob vn tx i0 i1 vm w) (vsw : US) (k0 : Int32) (k1 : Int32) : ∃ rx rm, f_X11_would N vob vn vsw k0 k1 = some rx ∧ f_X12_would N vm w k0 k1 = some rm ∧ rx.1 = rm.1 ∧ Inv rx.2.1 vn tx i0 i1 rm.2 w := by
  obtain ⟨a, hv, hx, hm⟩ := hI.1
  have h5 := hv.1
  have hw := lt32 h5 hv.2.1
  unfold f_X11_would f_X12_would
  rw [ip_m (vob := vob) (hx.1.trans hm.1.symm)]
  rcases ip_x (vob := vob) h5 hx.1 k0 k1 with ⟨h, ⟨t, ht, rfl⟩, ⟨n, hn, rfl⟩⟩ | h
  · simp only [h, bs, ift]
    have c27 : ∀ {α : Type} (k : Option α), (if (27 : Int32) < 0 ∨ 63 ≤ (27 : Int32).toNatClampNeg then none else k) = k := fun k => if_neg (by decide)
    simp only [c27, show (27 : Int32).toNatClampNeg = 27 from by decide, hm.2.2.1, hx.2.1, hx.2.2.2.1]
    obtain ⟨sw, s1, s2, s3, s4⟩ := by_x hN hv hx hw ht hn (Or.inr ⟨rfl, rfl⟩) (m := 0) (by decide) vsw
    have s1 : f_X8_by N vsw vn (nI (a.1 5)) (nI t) (nI n) (-1) 0 = some sw := s1
    obtain ⟨vm1, t1, t2, t3⟩ := tk_m hN (vm := vm) hv hm
    obtain ⟨vm2, o1, o2, -, o3⟩ := op_m hv hw t2 ht hn
    simp only [s1, bs, bh_x h5 hv.2.2.2.1 s3 s4, t1, o1, bh_m hN hv hm o2 (lt32 h5 hv.2.2.2.1)]
    exact ⟨_, _, rfl, rfl, rfl, hI.scr (t3.tr o3)⟩
  · rw [h]
    refine ⟨_, _, rfl, rfl, ?_, ?_⟩
    · rfl
    · exact hI.bad
theorem sim_moves {N : Nat} (hN : 200000 ≤ N) {vob vn : US} {tx : Nat → Int32} {i0 i1 : Option US} {vm : US} {w : Nat → Int32} (hI : Inv vob vn tx i0 i1 vm w) (vsw : US) (k0 : Int32) (k1 : Int32) (k2 : Int32) : ∃ rx rm, f_X11_moves N vob vn vsw k0 k1 k2 = some rx ∧ f_X12_moves N vm w k0 k1 k2 = some rm ∧ rx.1 = rm.1 ∧ Inv rx.2.1 vn tx i0 i1 rm.2 w := by
  obtain ⟨a, hv, hx, hm⟩ := hI.1
  have h5 := hv.1
  have hw := lt32 h5 hv.2.1
  unfold f_X11_moves f_X12_moves
  rw [ip_m (vob := vob) (hx.1.trans hm.1.symm), ht_m (hx.1.trans hm.1.symm)]
  rcases ip_x (vob := vob) h5 hx.1 k0 k1 with ⟨h, ⟨t, ht, rfl⟩, ⟨n, hn, rfl⟩⟩ | h
  · rcases ht_x h5 hx.1 k2 with ⟨g, j, hj, rfl⟩ | g
    · simp only [h, g, bs, ift]
      rw [hx.2.1]
      obtain ⟨sw, s1, s2, s3, s4⟩ := by_x hN hv hx hw ht hn (Or.inr ⟨rfl, rfl⟩) (m := 0) (by decide) vsw
      have s1 : f_X8_by N vsw vn (nI (a.1 5)) (nI t) (nI n) (-1) 0 = some sw := s1
      obtain ⟨vm1, t1, t2, t3⟩ := tk_m hN (vm := vm) hv hm
      obtain ⟨vm2, o1, o2, -, o3⟩ := op_m hv hw t2 ht hn
      simp only [s1, bs, mo_x hv hx s2 hw ht hn (by decide) hj, t1, o1, mo_m h5 o2 hj]
      exact ⟨_, _, rfl, rfl, rfl, hI.scr (t3.tr o3)⟩
    · simp only [h, g, bs, ift, iff0]
      refine ⟨_, _, rfl, rfl, ?_, ?_⟩
      · rfl
      · exact hI.bad
  · rw [h]
    refine ⟨_, _, rfl, rfl, ?_, ?_⟩
    · rfl
    · exact hI.bad
theorem sim_pull {N : Nat} (hN : 200000 ≤ N) {vob vn : US} {tx : Nat → Int32} {i0 i1 : Option US} {vm : US} {w : Nat → Int32} (hI : Inv vob vn tx i0 i1 vm w) (vsw : US) (k0 : Int32) (k1 : Int32) : ∃ rx rm, f_X11_pull N vob vn vsw k0 k1 = some rx ∧ f_X12_pull N vm w k0 k1 = some rm ∧ rx.1 = rm.1 ∧ Inv rx.2.1 rx.2.2.1 tx i0 i1 rm.2.1 rm.2.2 := by
  obtain ⟨a, hv, hx, hm⟩ := hI.1
  have h5 := hv.1
  have hw := lt32 h5 hv.2.1
  have v6 := hv.2.2.2.2.2.2.1
  unfold f_X11_pull f_X12_pull
  rw [ip_m (vob := vob) (hx.1.trans hm.1.symm)]
  rcases ip_x (vob := vob) h5 hx.1 k0 k1 with ⟨h, ⟨t, ht, rfl⟩, ⟨n, hn, rfl⟩⟩ | h
  · simp only [h, bs, ift]
    rw [hx.2.1]
    obtain ⟨sw, s1, s2, s3, s4⟩ := by_x hN hv hx hw ht hn (Or.inr ⟨rfl, rfl⟩) (m := 0) (by decide) vsw
    have s1 : f_X8_by N vsw vn (nI (a.1 5)) (nI t) (nI n) (-1) 0 = some sw := s1
    obtain ⟨vm1, t1, t2, t3⟩ := tk_m hN (vm := vm) hv hm
    obtain ⟨vm2, o1, o2, -, o3⟩ := op_m hv hw t2 ht hn
    obtain ⟨v', d1, d2⟩ := ds_x (vob := vob) hv hx hn (by decide) s2 s3 s4
    obtain ⟨w', g1, g2⟩ := gp_m hN hv hm o2
    simp only [s1, bs, d1, t1, o1, g1]
    refine ⟨_, _, rfl, rfl, rfl, (hI.scr (t3.tr o3)).now ⟨_, ?_, d2, g2⟩⟩
    by_cases c : a.1 15 = 10
    · rw [if_pos c]
      exact ((hv.sft c).rmb (by show 9 < 10; decide)).opn (aft_lt _ _ _ _ _ _ _)
    · rw [if_neg c]
      exact (hv.rmb (by omega)).opn (aft_lt _ _ _ _ _ _ _)
  · rw [h]
    refine ⟨_, _, rfl, rfl, ?_, ?_⟩
    · rfl
    · exact hI.bad
theorem sim_both {N : Nat} (hN : 200000 ≤ N) {vob vn : US} {tx : Nat → Int32} {i0 i1 : Option US} {vm : US} {w : Nat → Int32} (hI : Inv vob vn tx i0 i1 vm w) (vsw : US) (k0 : Int32) (k1 : Int32) (k2 : Int32) (k3 : Int32) : ∃ rx rm, f_X11_both N vob vn vsw k0 k1 k2 k3 = some rx ∧ f_X12_both N vm w k0 k1 k2 k3 = some rm ∧ rx.1 = rm.1 ∧ Inv rx.2.1 rx.2.2.1 tx i0 i1 rm.2.1 rm.2.2 := by
  obtain ⟨a, hv, hx, hm⟩ := hI.1
  have h5 := hv.1
  have hw := lt32 h5 hv.2.1
  have v6 := hv.2.2.2.2.2.2.1
  unfold f_X11_both f_X12_both
  rw [ip_m (vob := vob) (hx.1.trans hm.1.symm), ip_m (vob := vob) (hx.1.trans hm.1.symm)]
  rcases ip_x (vob := vob) h5 hx.1 k0 k1 with ⟨h, ⟨t, ht, rfl⟩, ⟨n, hn, rfl⟩⟩ | h
  · rcases ip_x (vob := vob) h5 hx.1 k2 k3 with ⟨g, ⟨q, hq, rfl⟩, ⟨m, hm2, rfl⟩⟩ | g
    · simp only [h, g, bs, ift]
      by_cases c : nI t = nI q
      · rw [if_pos c, if_pos c]
        refine ⟨_, _, rfl, rfl, ?_, ?_⟩
        · rfl
        · exact hI.bad
      rw [hx.2.1, if_neg c, if_neg c]
      obtain ⟨sw, s1, s2, s3, s4⟩ := by_x hN hv hx hw ht hn (Or.inl ⟨hq, rfl⟩) hm2 vsw
      obtain ⟨vm1, t1, t2, t3⟩ := tk_m hN (vm := vm) hv hm
      obtain ⟨vm2, o1, ⟨p1, p2, p3, p4, -, -, -⟩, -, o3⟩ := op_m hv hw t2 ht hn
      have o2 : MPl (upi (upi vm2 10 (nI q)) 11 (nI m)) (a.1 0) (sdv a) (a.1 5) t n q m := ⟨p1, p2, p3, p4, Or.inl ⟨hq, rfl⟩, rfl, hm2⟩
      obtain ⟨v', d1, d2⟩ := ds_x (vob := vob) hv hx hn hm2 s2 s3 s4
      obtain ⟨w', g1, g2⟩ := gp_m hN hv hm o2
      simp only [s1, bs, d1, t1, o1, bnd_eq, g1]
      refine ⟨_, _, rfl, rfl, rfl, (hI.scr ((t3.tr o3).tr ⟨rfl, rfl, rfl, rfl, rfl, rfl⟩)).now ⟨_, ?_, d2, g2⟩⟩
      by_cases c : a.1 15 = 10
      · rw [if_pos c]
        exact ((hv.sft c).rmb (by show 9 < 10; decide)).opn (aft_lt _ _ _ _ _ _ _)
      · rw [if_neg c]
        exact (hv.rmb (by omega)).opn (aft_lt _ _ _ _ _ _ _)
    · simp only [h, g, bs, ift, iff0]
      refine ⟨_, _, rfl, rfl, ?_, ?_⟩
      · rfl
      · exact hI.bad
  · simp only [h, bs, iff0]
    refine ⟨_, _, rfl, rfl, ?_, ?_⟩
    · rfl
    · exact hI.bad
