theorem in_w4 (x : Int32) : f_X12_in x.toInt64 0 4 = f_X11_within x 0 4 ∧ f_X12_in x.toInt64 0 9 = f_X11_within x 0 9 ∧ f_X12_in x.toInt64 1 9 = f_X11_within x 1 9 := ⟨in_w x 0 4, in_w x 0 9, in_w x 1 9⟩
theorem sim_thing {N : Nat} (hN : 200000 ≤ N) {vob vn : US} {tx : Nat → Int32} {i0 i1 : Option US} {vm : US} {w : Nat → Int32} (hI : Inv vob vn tx i0 i1 vm w) (k0 : Int32) (k1 : Int32) (k2 : Int32) (k3 : Int32) : ∃ rx rm, f_X11_thing vob vn k0 k1 k2 k3 = some rx ∧ f_X12_thing vm w k0 k1 k2 k3 = some rm ∧ rx.1 = rm.1 ∧ Inv rx.2.1 rx.2.2 tx i0 i1 rm.2.1 rm.2.2 := by
  obtain ⟨a, ⟨v0, v1, v2, v3, v4, v5, v6, v7, v8, v9, v10⟩, ⟨x0, x1, x2, x3, x4, x5, x6, x7, x8, x9, x10⟩, ⟨m0, m1, m2, m3, m4, m5, m6, m7, m8, m9⟩⟩ := hI.1
  unfold f_X11_thing f_X12_thing
  rw [(in_w4 k0).1, (in_w4 k1).2.1, (in_w4 k2).2.2, (in_w4 k3).2.1]
  have hbad : ∃ rx rm, b_X11_thing_44 vob vn k0 k1 k2 k3 = some rx ∧ b_X12_thing_49 vm w = some rm ∧ rx.1 = rm.1 ∧ Inv rx.2.1 rx.2.2 tx i0 i1 rm.2.1 rm.2.2 := by
    refine ⟨_, _, rfl, rfl, ?_, ?_⟩
    · rfl
    · exact hI.bad
  rcases wi k0 0 4 (by decide) (by decide) with ⟨g1, q1, -, hq1, e1⟩ | g1
  · rw [show f_X11_within k0 0 4 = some true from g1]
    rcases wi k1 0 9 (by decide) (by decide) with ⟨g2, q2, -, hq2, e2⟩ | g2
    · rw [show f_X11_within k1 0 9 = some true from g2]
      rcases wi k2 1 9 (by decide) (by decide) with ⟨g3, q3, hq3, hq3', e3⟩ | g3
      · rw [show f_X11_within k2 1 9 = some true from g3]
        rcases wi k3 0 9 (by decide) (by decide) with ⟨g4, q4, -, hq4, e4⟩ | g4
        · rw [show f_X11_within k3 0 9 = some true from g4]
          subst e1 e2 e3 e4
          simp only [bs, ift, m_things]
          unfold b_X11_thing_45
          rw [if_neg (by decide), m0, x0]
          by_cases h5 : a.1 0 = 5
          · rw [h5, if_neg (by decide), if_pos (show nI 5 = 5 from rfl)]
            refine ⟨_, _, rfl, rfl, ?_, ?_⟩
            · rfl
            · exact hI.full
          · have hl : a.1 0 < 5 := by omega
            have hlt : nI (a.1 0) < 5 := nI_lt (b := 5) hl (by decide)
            rw [if_pos hlt, if_neg (show ¬ nI (a.1 0) = 5 from fun q => h5 ((nI_eq (by omega) (by decide)).mp q))]
            have hlay : f_X12_layThing w 63 (nI q1) (nI q2) (nI q3) (nI q4) = some (upd (upd (upd (upd (upd (upd w (1 + 5 * a.1 0) (nI q1)) (2 + 5 * a.1 0) (nI q2)) (3 + 5 * a.1 0) (nI q3)) (4 + 5 * a.1 0) (nI q4)) (5 + 5 * a.1 0) 1) 0 (nI (a.1 0 + 1))) := by
              unfold f_X12_layThing
              have c0 : ∀ {α : Type} (k : Option α), (if (0 : Int32) < 0 ∨ 63 ≤ (0 : Int32).toNatClampNeg then none else k) = k := fun k => if_neg (by decide)
              have ez : (0 : Int32).toNatClampNeg = 0 := by decide
              have f0 : (1 : Int32) + 5 * nI (a.1 0) = nI (1 + 5 * a.1 0) := by
                rw [show (1 : Int32) = nI 1 from rfl, show (5 : Int32) = nI 5 from rfl, pk_mul, nI_add]
              have f1 : nI (1 + 5 * a.1 0) + 0 = nI (1 + 5 * a.1 0) := by rw [show (0 : Int32) = nI 0 from rfl, nI_add]; rfl
              have f2 : nI (1 + 5 * a.1 0) + 1 = nI (2 + 5 * a.1 0) := by rw [nI_1]; congr 1; omega
              have f3 : nI (1 + 5 * a.1 0) + 2 = nI (3 + 5 * a.1 0) := by rw [show (2 : Int32) = nI 2 from rfl, nI_add]; congr 1; omega
              have f4 : nI (1 + 5 * a.1 0) + 3 = nI (4 + 5 * a.1 0) := by rw [show (3 : Int32) = nI 3 from rfl, nI_add]; congr 1; omega
              have f5 : nI (1 + 5 * a.1 0) + 4 = nI (5 + 5 * a.1 0) := by rw [show (4 : Int32) = nI 4 from rfl, nI_add]; congr 1; omega
              simp only [c0, ez, bnd_eq, m0, f0, f1, f2, f3, f4, f5]
              rw [ck_in (by omega) (by decide), ck_in (by omega) (by decide), ck_in (by omega) (by decide), ck_in (by omega) (by decide), ck_in (by omega) (by decide), nI_clamp (by omega), nI_clamp (by omega), nI_clamp (by omega), nI_clamp (by omega), nI_clamp (by omega)]
              have e8 : upd (upd (upd (upd (upd w (1 + 5 * a.1 0) (nI q1)) (2 + 5 * a.1 0) (nI q2)) (3 + 5 * a.1 0) (nI q3)) (4 + 5 * a.1 0) (nI q4)) (5 + 5 * a.1 0) 1 0 + 1 = nI (a.1 0 + 1) := by
                simp only [upd]
                rw [if_neg (by omega), if_neg (by omega), if_neg (by omega), if_neg (by omega), if_neg (by omega), m0, nI_1]
              rw [e8]
              rfl
            rw [hlay, bs]
            have hadd : f_X9_addThing vn (nI q1) (nI q2) (nI q3) (nI q4) = some (upi (upi (upa (upa (upa (upa vn 1 (a.1 0) (nI q1)) 2 (a.1 0) (nI q2)) 3 (a.1 0) (nI q3)) 4 (a.1 0) (nI q4)) 5 (nI (a.1 5 ||| 2 ^ a.1 0))) 0 (nI (a.1 0 + 1))) := by
              unfold f_X9_addThing
              have hp := pow5 v0
              obtain ⟨-, -, fo⟩ := fin_bit (a.1 0) hl (a.1 5) (by omega)
              have u1 : ∀ (i : Nat) (y : Int32) (k : Nat) (v : US), (upa v k i y).1 = v.1 := fun _ _ _ _ => rfl
              simp only [bnd_eq, u1]
              rw [x0, if_pos hlt, ck_in hl (by decide), ck_in hl (by decide), ck_in hl (by decide), ck_in hl (by decide), nI_clamp (by omega), x1, fo, nI_1]
            rw [hadd, bs]
            have hfo := fin_or (a.1 0) hl (a.1 5) (by have := pow5 v0; omega) v1
            have hpm : 2 ^ a.1 0 ≤ 2 ^ (a.1 0 + 1) := pow_mono (by omega)
            refine ⟨_, _, rfl, rfl, ?_, hI.now ⟨(fun k => if k = 0 then a.1 0 + 1 else if k = 5 then a.1 5 ||| 2 ^ a.1 0 else a.1 k, fun k => if k = 1 then updN (a.2 1) (a.1 0) q1 else if k = 2 then updN (a.2 2) (a.1 0) q2 else if k = 3 then updN (a.2 3) (a.1 0) q3 else if k = 4 then updN (a.2 4) (a.1 0) q4 else a.2 k), ?_, ?_, ?_⟩⟩
            · rfl
            · refine ⟨by show a.1 0 + 1 ≤ 5; omega, hfo.1, v2, Nat.lt_of_lt_of_le v3 hpm, v4, v5, v6, fun i hi => ⟨?_, ?_, ?_, ?_, ?_⟩, fun i hi => ⟨Nat.lt_succ_of_lt (v8 i hi).1, (v8 i hi).2⟩, fun i hi => ⟨Nat.lt_succ_of_lt (v9 i hi).1, (v9 i hi).2.1, Nat.lt_of_lt_of_le (v9 i hi).2.2 hpm⟩, fun i hi => Nat.lt_of_lt_of_le (v10 i hi) hpm⟩
              · exact upN_app (P := fun x => x ≤ 4) (fun i hi => (v7 i hi).1) hq1 i hi
              · exact upN_app (P := fun x => x ≤ 9) (fun i hi => (v7 i hi).2.1) hq2 i hi
              · exact upN_app (P := fun x => 1 ≤ x) (fun i hi => (v7 i hi).2.2.1) hq3 i hi
              · exact upN_app (P := fun x => x ≤ 9) (fun i hi => (v7 i hi).2.2.2.1) hq3' i hi
              · exact upN_app (P := fun x => x ≤ 9) (fun i hi => (v7 i hi).2.2.2.2) hq4 i hi
            · refine ⟨rfl, rfl, x2, x3, x4, x5, x6, fun i hi => ⟨?_, ?_, ?_, ?_⟩, x8, x9, x10⟩
              · exact up_app (fun i hi => (x7 i hi).1) i hi
              · exact up_app (fun i hi => (x7 i hi).2.1) i hi
              · exact up_app (fun i hi => (x7 i hi).2.2.1) i hi
              · exact up_app (fun i hi => (x7 i hi).2.2.2) i hi
            · obtain ⟨W9, hW9⟩ : ∃ W9, W9 = (upd (upd (upd (upd (upd (upd w (1 + 5 * a.1 0) (nI q1)) (2 + 5 * a.1 0) (nI q2)) (3 + 5 * a.1 0) (nI q3)) (4 + 5 * a.1 0) (nI q4)) (5 + 5 * a.1 0) 1) 0 (nI (a.1 0 + 1))) := ⟨_, rfl⟩
              show RM (upd (upd (upd (upd (upd (upd w (1 + 5 * a.1 0) (nI q1)) (2 + 5 * a.1 0) (nI q2)) (3 + 5 * a.1 0) (nI q3)) (4 + 5 * a.1 0) (nI q4)) (5 + 5 * a.1 0) 1) 0 (nI (a.1 0 + 1))) _
              rw [← hW9]
              have hw : ∀ j, W9 j = if j = 0 then nI (a.1 0 + 1) else if j = 5 + 5 * a.1 0 then 1 else if j = 4 + 5 * a.1 0 then nI q4 else if j = 3 + 5 * a.1 0 then nI q3 else if j = 2 + 5 * a.1 0 then nI q2 else if j = 1 + 5 * a.1 0 then nI q1 else w j := fun j => by rw [hW9]; rfl
              refine ⟨?_, ?_, ?_, ?_, ?_, ?_, fun i hi => ?_, fun i hi => ?_, fun i hi => ?_, fun i hi => ?_⟩
              · rw [hw, if_pos rfl]; rfl
              · rw [hw]; (repeat (first | rw [if_neg (by omega)] | rw [if_pos (by omega)])); exact m1
              · rw [hw]; (repeat (first | rw [if_neg (by omega)] | rw [if_pos (by omega)])); exact m2
              · rw [hw]; (repeat (first | rw [if_neg (by omega)] | rw [if_pos (by omega)])); exact m3
              · rw [hw]; (repeat (first | rw [if_neg (by omega)] | rw [if_pos (by omega)])); exact m4
              · rw [hw]; (repeat (first | rw [if_neg (by omega)] | rw [if_pos (by omega)])); exact m5
              · have hi : i < a.1 0 + 1 := hi
                show W9 (1 + 5 * i) = nI (updN (a.2 1) (a.1 0) q1 i) ∧ W9 (2 + 5 * i) = nI (updN (a.2 2) (a.1 0) q2 i) ∧ W9 (3 + 5 * i) = nI (updN (a.2 3) (a.1 0) q3 i) ∧ W9 (4 + 5 * i) = nI (updN (a.2 4) (a.1 0) q4 i) ∧ W9 (5 + 5 * i) = nI ((a.1 5 ||| 2 ^ a.1 0) / 2 ^ i % 2)
                rw [hfo.2 i (by omega)]
                simp only [hw, updN]
                by_cases q : i = a.1 0
                · (repeat (first | rw [if_neg (by omega)] | rw [if_pos (by omega)]))
                  exact ⟨rfl, rfl, rfl, rfl, rfl⟩
                · (repeat (first | rw [if_neg (by omega)] | rw [if_pos (by omega)]))
                  exact m6 i (by omega)
              · have hi : i < a.1 8 := hi
                simp only [hw]
                (repeat (first | rw [if_neg (by omega)] | rw [if_pos (by omega)]))
                exact m7 i hi
              · have hi : i < a.1 11 := hi
                simp only [hw]
                (repeat (first | rw [if_neg (by omega)] | rw [if_pos (by omega)]))
                exact m8 i hi
              · have hi : i < a.1 15 := hi
                simp only [hw]
                (repeat (first | rw [if_neg (by omega)] | rw [if_pos (by omega)]))
                exact m9 i hi
        · rw [show f_X11_within k3 0 9 = some false from g4]; exact hbad
      · rw [show f_X11_within k2 1 9 = some false from g3]; exact hbad
    · rw [show f_X11_within k1 0 9 = some false from g2]; exact hbad
  · rw [show f_X11_within k0 0 4 = some false from g1]; exact hbad
