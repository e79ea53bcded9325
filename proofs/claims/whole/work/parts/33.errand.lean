def updN (f : Nat → Nat) (k x : Nat) : Nat → Nat := fun j => if j = k then x else f j
theorem up_app {f : Nat → Int32} {g : Nat → Nat} {e x : Nat} (h : ∀ i, i < e → f i = nI (g i)) : ∀ i, i < e + 1 → upd f e (nI x) i = nI (updN g e x i) := by
  intro i hi
  unfold upd updN
  by_cases q : i = e
  · rw [if_pos q, if_pos q]
  · rw [if_neg q, if_neg q]; exact h i (by omega)
theorem upN_app {g : Nat → Nat} {e x : Nat} {P : Nat → Prop} (h : ∀ i, i < e → P (g i)) (hx : P x) : ∀ i, i < e + 1 → P (updN g e x i) := by
  intro i hi
  unfold updN
  by_cases q : i = e
  · rw [if_pos q]; exact hx
  · rw [if_neg q]; exact h i (by omega)
theorem sim_errand {N : Nat} (hN : 200000 ≤ N) {vob vn : US} {tx : Nat → Int32} {i0 i1 : Option US} {vm : US} {w : Nat → Int32} (hI : Inv vob vn tx i0 i1 vm w) (k0 : Int32) (k1 : Int32) : ∃ rx rm, f_X11_errand vob vn k0 k1 = some rx ∧ f_X12_errand vm w k0 k1 = some rm ∧ rx.1 = rm.1 ∧ Inv rx.2.1 rx.2.2 tx i0 i1 rm.2.1 rm.2.2 := by
  obtain ⟨a, ⟨v0, v1, v2, v3, v4, v5, v6, v7, v8, v9, v10⟩, ⟨x0, x1, x2, x3, x4, x5, x6, x7, x8, x9, x10⟩, ⟨m0, m1, m2, m3, m4, m5, m6, m7, m8, m9⟩⟩ := hI.1
  unfold f_X11_errand f_X12_errand
  rw [ip_m (vob := vob) (x0.trans m0.symm)]
  rcases ip_x (vob := vob) v0 x0 k0 k1 with ⟨h, ⟨t, ht, rfl⟩, ⟨n, hn, rfl⟩⟩ | h
  · simp only [h, bs, ift, m_errands]
    rw [m3, x4]
    have e28 : (28 : Int32).toNatClampNeg = 28 := by decide
    have c28 : ∀ {α : Type} (k : Option α), (if (28 : Int32) < 0 ∨ 63 ≤ (28 : Int32).toNatClampNeg then none else k) = k := fun k => if_neg (by decide)
    have e29 : (29 : Int32) + 2 * nI (a.1 8) = nI (29 + 2 * a.1 8) := by
      rw [show (29 : Int32) = nI 29 from rfl, show (2 : Int32) = nI 2 from rfl, pk_mul, nI_add]
    have e30 : nI (29 + 2 * a.1 8) + 1 = nI (30 + 2 * a.1 8) := by
      rw [nI_1]; congr 1; omega
    by_cases h5 : a.1 8 = 5
    · rw [h5, if_neg (by decide), if_pos (show nI 5 = 5 from rfl)]
      refine ⟨_, _, rfl, rfl, ?_, ?_⟩
      · rfl
      · exact hI.full
    · have hl : a.1 8 < 5 := by omega
      rw [if_pos (show nI (a.1 8) < 5 from nI_lt (b := 5) hl (by decide)), if_neg (show ¬ nI (a.1 8) = 5 from fun q => h5 ((nI_eq (by omega) (by decide)).mp q))]
      simp only [c28, e28, bnd_eq, e29, e30]
      rw [ck_in (by omega) (by decide), ck_in (by omega) (by decide), nI_clamp (by omega), nI_clamp (by omega)]
      have e8 : upd (upd w (29 + 2 * a.1 8) (nI t)) (30 + 2 * a.1 8) (nI n) 28 + 1 = nI (a.1 8 + 1) := by
        simp only [upd]
        rw [if_neg (by omega), if_neg (by omega), m3, nI_1]
      rw [e8]
      unfold f_X9_addErrand
      rw [x4, if_pos (show nI (a.1 8) < 5 from nI_lt (b := 5) hl (by decide))]
      rw [ck_in hl (by decide), bnd_eq, ck_in hl (by decide), bnd_eq, nI_clamp (by omega)]
      refine ⟨_, _, rfl, rfl, ?_, hI.now ⟨(fun k => if k = 8 then a.1 8 + 1 else a.1 k, fun k => if k = 9 then updN (a.2 9) (a.1 8) t else if k = 10 then updN (a.2 10) (a.1 8) n else a.2 k), ?_, ?_, ?_⟩⟩
      · show vn.1 8 + 1 - 1 = nI (a.1 8)
        rw [x4, nI_1]
        exact pk_sub (a := a.1 8 + 1) (b := 1) (by omega)
      · refine ⟨v0, v1, v2, v3, by show a.1 8 + 1 ≤ 5; omega, v5, v6, v7, fun i hi => ⟨?_, ?_⟩, v9, v10⟩
        · exact upN_app (P := fun x => x < a.1 0) (fun i hi => (v8 i hi).1) ht i hi
        · exact upN_app (P := fun x => x ≤ 20) (fun i hi => (v8 i hi).2) hn i hi
      · refine ⟨x0, x1, x2, x3, ?_, x5, x6, x7, fun i hi => ⟨?_, ?_⟩, x9, x10⟩
        · show vn.1 8 + 1 = nI (a.1 8 + 1)
          rw [x4, nI_1]
        · exact up_app (fun i hi => (x8 i hi).1) i hi
        · exact up_app (fun i hi => (x8 i hi).2) i hi
      · obtain ⟨W9, hW9⟩ : ∃ W9, W9 = (upd (upd (upd w (29 + 2 * a.1 8) (nI t)) (30 + 2 * a.1 8) (nI n)) 28 (nI (a.1 8 + 1))) := ⟨_, rfl⟩
        show RM (upd (upd (upd w (29 + 2 * a.1 8) (nI t)) (30 + 2 * a.1 8) (nI n)) 28 (nI (a.1 8 + 1))) _
        rw [← hW9]
        have hw : ∀ j, W9 j = if j = 28 then nI (a.1 8 + 1) else if j = 30 + 2 * a.1 8 then nI n else if j = 29 + 2 * a.1 8 then nI t else w j := fun j => by rw [hW9]; rfl
        refine ⟨?_, ?_, ?_, ?_, ?_, ?_, fun i hi => ?_, fun i hi => ?_, fun i hi => ?_, fun i hi => ?_⟩
        · rw [hw]; (repeat (first | rw [if_neg (by omega)] | rw [if_pos (by omega)])); exact m0
        · rw [hw]; (repeat (first | rw [if_neg (by omega)] | rw [if_pos (by omega)])); exact m1
        · rw [hw]; (repeat (first | rw [if_neg (by omega)] | rw [if_pos (by omega)])); exact m2
        · rw [hw, if_pos rfl]; rfl
        · rw [hw]; (repeat (first | rw [if_neg (by omega)] | rw [if_pos (by omega)])); exact m4
        · rw [hw]; (repeat (first | rw [if_neg (by omega)] | rw [if_pos (by omega)])); exact m5
        · have hi : i < a.1 0 := hi
          simp only [hw]
          repeat (first | rw [if_neg (by omega)] | rw [if_pos (by omega)])
          exact m6 i hi
        · have hi : i < a.1 8 + 1 := hi
          show W9 (29 + 2 * i) = nI (updN (a.2 9) (a.1 8) t i) ∧ W9 (30 + 2 * i) = nI (updN (a.2 10) (a.1 8) n i)
          simp only [hw, updN]
          by_cases q : i = a.1 8
          · repeat (first | rw [if_neg (by omega)] | rw [if_pos (by omega)])
            exact ⟨rfl, rfl⟩
          · repeat (first | rw [if_neg (by omega)] | rw [if_pos (by omega)])
            exact m7 i (by omega)
        · have hi : i < a.1 11 := hi
          simp only [hw]
          repeat (first | rw [if_neg (by omega)] | rw [if_pos (by omega)])
          exact m8 i hi
        · have hi : i < a.1 15 := hi
          simp only [hw]
          repeat (first | rw [if_neg (by omega)] | rw [if_pos (by omega)])
          exact m9 i hi
  · rw [h]
    refine ⟨_, _, rfl, rfl, ?_, ?_⟩
    · rfl
    · exact hI.bad
