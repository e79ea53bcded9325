theorem sim_rule {N : Nat} (hN : 200000 ≤ N) {vob vn : US} {tx : Nat → Int32} {i0 i1 : Option US} {vm : US} {w : Nat → Int32} (hI : Inv vob vn tx i0 i1 vm w) (k0 : Int32) (k1 : Int32) (k2 : Int32) : ∃ rx rm, f_X11_rule vob vn k0 k1 k2 = some rx ∧ f_X12_rule vm w k0 k1 k2 = some rm ∧ rx.1 = rm.1 ∧ Inv rx.2.1 rx.2.2 tx i0 i1 rm.2.1 rm.2.2 := by
  obtain ⟨a, ⟨v0, v1, v2, v3, v4, v5, v6, v7, v8, v9, v10⟩, ⟨x0, x1, x2, x3, x4, x5, x6, x7, x8, x9, x10⟩, ⟨m0, m1, m2, m3, m4, m5, m6, m7, m8, m9⟩⟩ := hI.1
  unfold f_X11_rule f_X12_rule
  rw [ip_m (vob := vob) (x0.trans m0.symm), hs_m (x0.trans m0.symm)]
  rcases ip_x (vob := vob) v0 x0 k0 k1 with ⟨h, ⟨t, ht, rfl⟩, ⟨n, hn, rfl⟩⟩ | h
  · rcases hs_x v0 x0 k2 with ⟨g, z, hz, rfl⟩ | g
    · simp only [h, g, bs, ift, m_rules]
      rw [m4, x5]
      have c39 : ∀ {α : Type} (k : Option α), (if (39 : Int32) < 0 ∨ 63 ≤ (39 : Int32).toNatClampNeg then none else k) = k := fun k => if_neg (by decide)
      have e39 : (39 : Int32).toNatClampNeg = 39 := by decide
      have e40 : (40 : Int32) + 3 * nI (a.1 11) = nI (40 + 3 * a.1 11) := by
        rw [show (40 : Int32) = nI 40 from rfl, show (3 : Int32) = nI 3 from rfl, pk_mul, nI_add]
      have e41 : nI (40 + 3 * a.1 11) + 1 = nI (41 + 3 * a.1 11) := by
        rw [nI_1]; congr 1; omega
      have e42 : nI (40 + 3 * a.1 11) + 2 = nI (42 + 3 * a.1 11) := by
        rw [show (2 : Int32) = nI 2 from rfl, nI_add]; congr 1; omega
      by_cases h5 : a.1 11 = 4
      · rw [h5, if_neg (by decide), if_pos (show nI 4 = 4 from rfl)]
        refine ⟨_, _, rfl, rfl, ?_, ?_⟩
        · rfl
        · exact hI.full
      · have hl : a.1 11 < 4 := by omega
        rw [if_pos (show nI (a.1 11) < 4 from nI_lt (b := 4) hl (by decide)), if_neg (show ¬ nI (a.1 11) = 4 from fun q => h5 ((nI_eq (by omega) (by decide)).mp q))]
        have hlay : f_X12_layRule w 63 (nI t) (nI n) (nI z) = some (upd (upd (upd (upd w (40 + 3 * a.1 11) (nI t)) (41 + 3 * a.1 11) (nI n)) (42 + 3 * a.1 11) (nI z)) 39 (nI (a.1 11 + 1))) := by
          unfold f_X12_layRule
          simp only [c39, e39, bnd_eq, m4, e40, e41, e42]
          rw [ck_in (by omega) (by decide), ck_in (by omega) (by decide), ck_in (by omega) (by decide), nI_clamp (by omega), nI_clamp (by omega), nI_clamp (by omega)]
          have e8 : upd (upd (upd w (40 + 3 * a.1 11) (nI t)) (41 + 3 * a.1 11) (nI n)) (42 + 3 * a.1 11) (nI z) 39 + 1 = nI (a.1 11 + 1) := by
            simp only [upd]
            rw [if_neg (by omega), if_neg (by omega), if_neg (by omega), m4, nI_1]
          rw [e8]
          rfl
        rw [hlay, bs]
        unfold f_X9_addRule
        have hlt : nI (a.1 11) < 4 := nI_lt (b := 4) hl (by decide)
        have u12 : (upa vn 12 (nI (a.1 11)).toNatClampNeg (nI t)).1 11 = nI (a.1 11) := x5
        simp only [bnd_eq]
        rw [x5, if_pos hlt, ck_in hl (by decide), ck_in hl (by decide), u12, ck_in hl (by decide), nI_clamp (by omega)]
        refine ⟨_, _, rfl, rfl, ?_, hI.now ⟨(fun k => if k = 11 then a.1 11 + 1 else a.1 k, fun k => if k = 12 then updN (a.2 12) (a.1 11) t else if k = 13 then updN (a.2 13) (a.1 11) n else if k = 14 then updN (a.2 14) (a.1 11) z else a.2 k), ?_, ?_, ?_⟩⟩
        · show vn.1 11 + 1 - 1 = nI (a.1 11)
          rw [x5, nI_1]
          exact pk_sub (a := a.1 11 + 1) (b := 1) (by omega)
        · refine ⟨v0, v1, v2, v3, v4, by show a.1 11 + 1 ≤ 4; omega, v6, v7, v8, fun i hi => ⟨?_, ?_, ?_⟩, v10⟩
          · exact upN_app (P := fun x => x < a.1 0) (fun i hi => (v9 i hi).1) ht i hi
          · exact upN_app (P := fun x => x ≤ 20) (fun i hi => (v9 i hi).2.1) hn i hi
          · exact upN_app (P := fun x => x < 2 ^ a.1 0) (fun i hi => (v9 i hi).2.2) hz i hi
        · refine ⟨x0, x1, x2, x3, x4, ?_, x6, x7, x8, fun i hi => ⟨?_, ?_, ?_⟩, x10⟩
          · show vn.1 11 + 1 = nI (a.1 11 + 1)
            rw [x5, nI_1]
          · exact up_app (fun i hi => (x9 i hi).1) i hi
          · exact up_app (fun i hi => (x9 i hi).2.1) i hi
          · exact up_app (fun i hi => (x9 i hi).2.2) i hi
        · obtain ⟨W9, hW9⟩ : ∃ W9, W9 = (upd (upd (upd (upd w (40 + 3 * a.1 11) (nI t)) (41 + 3 * a.1 11) (nI n)) (42 + 3 * a.1 11) (nI z)) 39 (nI (a.1 11 + 1))) := ⟨_, rfl⟩
          show RM (upd (upd (upd (upd w (40 + 3 * a.1 11) (nI t)) (41 + 3 * a.1 11) (nI n)) (42 + 3 * a.1 11) (nI z)) 39 (nI (a.1 11 + 1))) _
          rw [← hW9]
          have hw : ∀ j, W9 j = if j = 39 then nI (a.1 11 + 1) else if j = 42 + 3 * a.1 11 then nI z else if j = 41 + 3 * a.1 11 then nI n else if j = 40 + 3 * a.1 11 then nI t else w j := fun j => by rw [hW9]; rfl
          refine ⟨?_, ?_, ?_, ?_, ?_, ?_, fun i hi => ?_, fun i hi => ?_, fun i hi => ?_, fun i hi => ?_⟩
          · rw [hw]; (repeat (first | rw [if_neg (by omega)] | rw [if_pos (by omega)])); exact m0
          · rw [hw]; (repeat (first | rw [if_neg (by omega)] | rw [if_pos (by omega)])); exact m1
          · rw [hw]; (repeat (first | rw [if_neg (by omega)] | rw [if_pos (by omega)])); exact m2
          · rw [hw]; (repeat (first | rw [if_neg (by omega)] | rw [if_pos (by omega)])); exact m3
          · rw [hw, if_pos rfl]; rfl
          · rw [hw]; (repeat (first | rw [if_neg (by omega)] | rw [if_pos (by omega)])); exact m5
          · have hi : i < a.1 0 := hi
            simp only [hw]
            (repeat (first | rw [if_neg (by omega)] | rw [if_pos (by omega)]))
            exact m6 i hi
          · have hi : i < a.1 8 := hi
            simp only [hw]
            (repeat (first | rw [if_neg (by omega)] | rw [if_pos (by omega)]))
            exact m7 i hi
          · have hi : i < a.1 11 + 1 := hi
            show W9 (40 + 3 * i) = nI (updN (a.2 12) (a.1 11) t i) ∧ W9 (41 + 3 * i) = nI (updN (a.2 13) (a.1 11) n i) ∧ W9 (42 + 3 * i) = nI (updN (a.2 14) (a.1 11) z i)
            simp only [hw, updN]
            by_cases q : i = a.1 11
            · (repeat (first | rw [if_neg (by omega)] | rw [if_pos (by omega)]))
              exact ⟨rfl, rfl, rfl⟩
            · (repeat (first | rw [if_neg (by omega)] | rw [if_pos (by omega)]))
              exact m8 i (by omega)
          · have hi : i < a.1 15 := hi
            simp only [hw]
            (repeat (first | rw [if_neg (by omega)] | rw [if_pos (by omega)]))
            exact m9 i hi
    · simp only [h, g, bs, ift, iff0]
      refine ⟨_, _, rfl, rfl, ?_, ?_⟩
      · rfl
      · exact hI.bad
  · rw [h]
    refine ⟨_, _, rfl, rfl, ?_, ?_⟩
    · rfl
    · exact hI.bad
