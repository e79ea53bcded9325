theorem sim_read {N : Nat} (hN : 200000 ≤ N) {vob vn : US} {tx : Nat → Int32} {i0 i1 : Option US} {vm : US} {w : Nat → Int32} (hI : Inv vob vn tx i0 i1 vm w) (vr : US) (vdr : US) (nx : Nat → Int32)  : ∃ rx rm, f_X11_read N vob vn vr vdr tx = some rx ∧ f_X12_read N vm nx w = some rm ∧ rx.1 = rm.1 ∧ Inv vob rx.2.1 tx i0 i1 rm.2.1 rm.2.2.2 := by
  sorry
theorem sim_order {N : Nat} (hN : 200000 ≤ N) {vob vn : US} {tx : Nat → Int32} {i0 i1 : Option US} {vm : US} {w : Nat → Int32} (hI : Inv vob vn tx i0 i1 vm w) (vd : US) (vds : US) (k0 : Int32) : ∃ rx rm, f_X11_order N vob vd vds vn k0 = some rx ∧ f_X12_order N vm w k0 = some rm ∧ rx.1 = rm.1 ∧ Inv rx.2.1 vn tx i0 i1 rm.2 w := by
  sorry
theorem sim_code {N : Nat} (hN : 200000 ≤ N) {vob vn : US} {tx : Nat → Int32} {i0 i1 : Option US} {vm : US} {w : Nat → Int32} (hI : Inv vob vn tx i0 i1 vm w) (vd : US) (vds : US) (k0 : Int32) (k1 : Int32) : ∃ rx rm, f_X11_code N vob vd vds vn k0 k1 = some rx ∧ f_X12_code N vm w k0 k1 = some rm ∧ rx.1 = rm.1 ∧ Inv rx.2.1 vn tx i0 i1 rm.2 w := by
  sorry
theorem sim_slack {N : Nat} (hN : 200000 ≤ N) {vob vn : US} {tx : Nat → Int32} {i0 i1 : Option US} {vm : US} {w : Nat → Int32} (hI : Inv vob vn tx i0 i1 vm w) (vse : US) (k0 : Int32) : ∃ rx rm, f_X11_slack N vob vn vse k0 = some rx ∧ f_X12_slack N vm w k0 = some rm ∧ rx.1 = rm.1 ∧ Inv rx.2.1 vn tx i0 i1 rm.2 w := by
  sorry
theorem sim_giveUp {N : Nat} (hN : 200000 ≤ N) {vob vn : US} {tx : Nat → Int32} {i0 i1 : Option US} {vm : US} {w : Nat → Int32} (hI : Inv vob vn tx i0 i1 vm w) (vse : US)  : ∃ rx rm, f_X11_giveUp N vob vn vse = some rx ∧ f_X12_giveUp N vm w = some rm ∧ rx.1 = rm.1 ∧ Inv vob vn tx i0 i1 rm.2 w := by
  sorry
