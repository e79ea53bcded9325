theorem sim_thing {N : Nat} (hN : 200000 ≤ N) {vob vn : US} {tx : Nat → Int32} {i0 i1 : Option US} {vm : US} {w : Nat → Int32} (hI : Inv vob vn tx i0 i1 vm w)  (k0 : Int32) (k1 : Int32) (k2 : Int32) (k3 : Int32) : ∃ rx rm, f_X11_thing vob vn k0 k1 k2 k3 = some rx ∧ f_X12_thing vm w k0 k1 k2 k3 = some rm ∧ rx.1 = rm.1 ∧ Inv rx.2.1 rx.2.2 tx i0 i1 rm.2.1 rm.2.2 := by
  sorry
theorem sim_rope {N : Nat} (hN : 200000 ≤ N) {vob vn : US} {tx : Nat → Int32} {i0 i1 : Option US} {vm : US} {w : Nat → Int32} (hI : Inv vob vn tx i0 i1 vm w)  (k0 : Int32) (k1 : Bool) : ∃ rx rm, f_X11_rope vob vn k0 k1 = some rx ∧ f_X12_rope vm w k0 k1 = some rm ∧ rx.1 = rm.1 ∧ Inv rx.2.1 rx.2.2 tx i0 i1 rm.2.1 rm.2.2 := by
  sorry
theorem sim_damp {N : Nat} (hN : 200000 ≤ N) {vob vn : US} {tx : Nat → Int32} {i0 i1 : Option US} {vm : US} {w : Nat → Int32} (hI : Inv vob vn tx i0 i1 vm w)  (k0 : Int32) : ∃ rx rm, f_X11_damp vob vn k0 = some rx ∧ f_X12_damp vm w k0 = some rm ∧ rx.1 = rm.1 ∧ Inv rx.2.1 rx.2.2 tx i0 i1 rm.2.1 rm.2.2 := by
  sorry
theorem sim_type {N : Nat} (hN : 200000 ≤ N) {vob vn : US} {tx : Nat → Int32} {i0 i1 : Option US} {vm : US} {w : Nat → Int32} (hI : Inv vob vn tx i0 i1 vm w)  (k0 : Int64) (k1 : Int32) : ∃ rx rm, f_X11_type N vob tx k0 k1 = some rx ∧ f_X12_type N vm k0 k1 = some rm ∧ rx.1 = rm.1 ∧ Inv rx.2.1 vn rx.2.2 i0 i1 rm.2 w := by
  sorry
theorem sim_clear {N : Nat} (hN : 200000 ≤ N) {vob vn : US} {tx : Nat → Int32} {i0 i1 : Option US} {vm : US} {w : Nat → Int32} (hI : Inv vob vn tx i0 i1 vm w)   : ∃ rx rm, f_X11_clear vob = some rx ∧ f_X12_clear vm = some rm ∧ rx.1 = rm.1 ∧ Inv rx.2 vn tx i0 i1 rm.2 w := by
  sorry
theorem sim_read {N : Nat} (hN : 200000 ≤ N) {vob vn : US} {tx : Nat → Int32} {i0 i1 : Option US} {vm : US} {w : Nat → Int32} (hI : Inv vob vn tx i0 i1 vm w) (vr : US) (vdr : US) (nx : Nat → Int32)  : ∃ rx rm, f_X11_read N vob vn vr vdr tx = some rx ∧ f_X12_read N vm nx w = some rm ∧ rx.1 = rm.1 ∧ Inv vob rx.2.1 tx i0 i1 rm.2.1 rm.2.2.2 := by
  sorry
theorem sim_pull {N : Nat} (hN : 200000 ≤ N) {vob vn : US} {tx : Nat → Int32} {i0 i1 : Option US} {vm : US} {w : Nat → Int32} (hI : Inv vob vn tx i0 i1 vm w) (vsw : US) (k0 : Int32) (k1 : Int32) : ∃ rx rm, f_X11_pull N vob vn vsw k0 k1 = some rx ∧ f_X12_pull N vm w k0 k1 = some rm ∧ rx.1 = rm.1 ∧ Inv rx.2.1 rx.2.2.1 tx i0 i1 rm.2.1 rm.2.2 := by
  sorry
theorem sim_both {N : Nat} (hN : 200000 ≤ N) {vob vn : US} {tx : Nat → Int32} {i0 i1 : Option US} {vm : US} {w : Nat → Int32} (hI : Inv vob vn tx i0 i1 vm w) (vsw : US) (k0 : Int32) (k1 : Int32) (k2 : Int32) (k3 : Int32) : ∃ rx rm, f_X11_both N vob vn vsw k0 k1 k2 k3 = some rx ∧ f_X12_both N vm w k0 k1 k2 k3 = some rm ∧ rx.1 = rm.1 ∧ Inv rx.2.1 rx.2.2.1 tx i0 i1 rm.2.1 rm.2.2 := by
  sorry
theorem sim_would {N : Nat} (hN : 200000 ≤ N) {vob vn : US} {tx : Nat → Int32} {i0 i1 : Option US} {vm : US} {w : Nat → Int32} (hI : Inv vob vn tx i0 i1 vm w) (vsw : US) (k0 : Int32) (k1 : Int32) : ∃ rx rm, f_X11_would N vob vn vsw k0 k1 = some rx ∧ f_X12_would N vm w k0 k1 = some rm ∧ rx.1 = rm.1 ∧ Inv rx.2.1 vn tx i0 i1 rm.2 w := by
  sorry
theorem sim_open {N : Nat} (hN : 200000 ≤ N) {vob vn : US} {tx : Nat → Int32} {i0 i1 : Option US} {vm : US} {w : Nat → Int32} (hI : Inv vob vn tx i0 i1 vm w)   : ∃ rx rm, f_X11_open vob vn = some rx ∧ f_X12_open vm w = some rm ∧ rx = rm ∧ Inv vob vn tx i0 i1 vm w := by
  sorry
theorem sim_moves {N : Nat} (hN : 200000 ≤ N) {vob vn : US} {tx : Nat → Int32} {i0 i1 : Option US} {vm : US} {w : Nat → Int32} (hI : Inv vob vn tx i0 i1 vm w) (vsw : US) (k0 : Int32) (k1 : Int32) (k2 : Int32) : ∃ rx rm, f_X11_moves N vob vn vsw k0 k1 k2 = some rx ∧ f_X12_moves N vm w k0 k1 k2 = some rm ∧ rx.1 = rm.1 ∧ Inv rx.2.1 vn tx i0 i1 rm.2 w := by
  sorry
theorem sim_undo {N : Nat} (hN : 200000 ≤ N) {vob vn : US} {tx : Nat → Int32} {i0 i1 : Option US} {vm : US} {w : Nat → Int32} (hI : Inv vob vn tx i0 i1 vm w)   : ∃ rx rm, f_X11_undo vob vn = some rx ∧ f_X12_undo vm w = some rm ∧ rx.1 = rm.1 ∧ Inv rx.2.1 rx.2.2 tx i0 i1 rm.2.1 rm.2.2 := by
  sorry
theorem sim_errand {N : Nat} (hN : 200000 ≤ N) {vob vn : US} {tx : Nat → Int32} {i0 i1 : Option US} {vm : US} {w : Nat → Int32} (hI : Inv vob vn tx i0 i1 vm w)  (k0 : Int32) (k1 : Int32) : ∃ rx rm, f_X11_errand vob vn k0 k1 = some rx ∧ f_X12_errand vm w k0 k1 = some rm ∧ rx.1 = rm.1 ∧ Inv rx.2.1 rx.2.2 tx i0 i1 rm.2.1 rm.2.2 := by
  sorry
theorem sim_drop {N : Nat} (hN : 200000 ≤ N) {vob vn : US} {tx : Nat → Int32} {i0 i1 : Option US} {vm : US} {w : Nat → Int32} (hI : Inv vob vn tx i0 i1 vm w)   : ∃ rx rm, f_X11_drop vob vn = some rx ∧ f_X12_drop vm w = some rm ∧ rx.1 = rm.1 ∧ Inv rx.2.1 rx.2.2 tx i0 i1 rm.2.1 rm.2.2 := by
  sorry
theorem sim_order {N : Nat} (hN : 200000 ≤ N) {vob vn : US} {tx : Nat → Int32} {i0 i1 : Option US} {vm : US} {w : Nat → Int32} (hI : Inv vob vn tx i0 i1 vm w) (vd : US) (vds : US) (k0 : Int32) : ∃ rx rm, f_X11_order N vob vd vds vn k0 = some rx ∧ f_X12_order N vm w k0 = some rm ∧ rx.1 = rm.1 ∧ Inv rx.2.1 vn tx i0 i1 rm.2 w := by
  sorry
theorem sim_code {N : Nat} (hN : 200000 ≤ N) {vob vn : US} {tx : Nat → Int32} {i0 i1 : Option US} {vm : US} {w : Nat → Int32} (hI : Inv vob vn tx i0 i1 vm w) (vd : US) (vds : US) (k0 : Int32) (k1 : Int32) : ∃ rx rm, f_X11_code N vob vd vds vn k0 k1 = some rx ∧ f_X12_code N vm w k0 k1 = some rm ∧ rx.1 = rm.1 ∧ Inv rx.2.1 vn tx i0 i1 rm.2 w := by
  sorry
theorem sim_who {N : Nat} (hN : 200000 ≤ N) {vob vn : US} {tx : Nat → Int32} {i0 i1 : Option US} {vm : US} {w : Nat → Int32} (hI : Inv vob vn tx i0 i1 vm w) (vd : US) (vds : US) (k0 : Int32) (k1 : Int32) : ∃ rx rm, f_X11_who N vob vd vds vn k0 k1 = some rx ∧ f_X12_who N vm w k0 k1 = some rm ∧ rx.1 = rm.1 ∧ Inv rx.2.1 vn tx i0 i1 rm.2 w := by
  sorry
theorem sim_heard {N : Nat} (hN : 200000 ≤ N) {vob vn : US} {tx : Nat → Int32} {i0 i1 : Option US} {vm : US} {w : Nat → Int32} (hI : Inv vob vn tx i0 i1 vm w) (vd : US) (vds : US) (k0 : Int32) : ∃ rx rm, f_X11_heard N vob vd vds vn k0 = some rx ∧ f_X12_heard N vm w k0 = some rm ∧ rx.1 = rm.1 ∧ Inv rx.2.1 vn tx i0 i1 rm.2 w := by
  sorry
theorem sim_cuts {N : Nat} (hN : 200000 ≤ N) {vob vn : US} {tx : Nat → Int32} {i0 i1 : Option US} {vm : US} {w : Nat → Int32} (hI : Inv vob vn tx i0 i1 vm w) (vd : US) (vds : US) (k0 : Int32) : ∃ rx rm, f_X11_cuts N vob vd vds vn k0 = some rx ∧ f_X12_cuts N vm w k0 = some rm ∧ rx.1 = rm.1 ∧ Inv rx.2.1 vn tx i0 i1 rm.2 w := by
  sorry
theorem sim_rule {N : Nat} (hN : 200000 ≤ N) {vob vn : US} {tx : Nat → Int32} {i0 i1 : Option US} {vm : US} {w : Nat → Int32} (hI : Inv vob vn tx i0 i1 vm w)  (k0 : Int32) (k1 : Int32) (k2 : Int32) : ∃ rx rm, f_X11_rule vob vn k0 k1 k2 = some rx ∧ f_X12_rule vm w k0 k1 k2 = some rm ∧ rx.1 = rm.1 ∧ Inv rx.2.1 rx.2.2 tx i0 i1 rm.2.1 rm.2.2 := by
  sorry
theorem sim_free {N : Nat} (hN : 200000 ≤ N) {vob vn : US} {tx : Nat → Int32} {i0 i1 : Option US} {vm : US} {w : Nat → Int32} (hI : Inv vob vn tx i0 i1 vm w)   : ∃ rx rm, f_X11_free vob vn = some rx ∧ f_X12_free vm w = some rm ∧ rx.1 = rm.1 ∧ Inv vob rx.2 tx i0 i1 vm rm.2 := by
  sorry
theorem sim_slack {N : Nat} (hN : 200000 ≤ N) {vob vn : US} {tx : Nat → Int32} {i0 i1 : Option US} {vm : US} {w : Nat → Int32} (hI : Inv vob vn tx i0 i1 vm w) (vse : US) (k0 : Int32) : ∃ rx rm, f_X11_slack N vob vn vse k0 = some rx ∧ f_X12_slack N vm w k0 = some rm ∧ rx.1 = rm.1 ∧ Inv rx.2.1 vn tx i0 i1 rm.2 w := by
  sorry
theorem sim_giveUp {N : Nat} (hN : 200000 ≤ N) {vob vn : US} {tx : Nat → Int32} {i0 i1 : Option US} {vm : US} {w : Nat → Int32} (hI : Inv vob vn tx i0 i1 vm w) (vse : US)  : ∃ rx rm, f_X11_giveUp N vob vn vse = some rx ∧ f_X12_giveUp N vm w = some rm ∧ rx.1 = rm.1 ∧ Inv vob vn tx i0 i1 rm.2 w := by
  sorry
theorem sim_share {N : Nat} (hN : 200000 ≤ N) {vob vn : US} {tx : Nat → Int32} {i0 i1 : Option US} {vm : US} {w : Nat → Int32} (hI : Inv vob vn tx i0 i1 vm w) (vd : US) (vds : US) (k0 : Int32) : ∃ rx rm, f_X11_share N vob vd vds vn k0 = some rx ∧ f_X12_share N vm w k0 = some rm ∧ rx.1 = rm.1 ∧ Inv rx.2.1 vn tx i0 i1 rm.2 w := by
  sorry
theorem sim_part {N : Nat} (hN : 200000 ≤ N) {vob vn : US} {tx : Nat → Int32} {i0 i1 : Option US} {vm : US} {w : Nat → Int32} (hI : Inv vob vn tx i0 i1 vm w)  (k0 : Int32) : ∃ rx rm, f_X11_part vob k0 = some rx ∧ f_X12_part vm k0 = some rm ∧ rx.1 = rm.1 ∧ Inv rx.2 vn tx i0 i1 rm.2 w := by
  sorry
theorem sim_status {N : Nat} (hN : 200000 ≤ N) {vob vn : US} {tx : Nat → Int32} {i0 i1 : Option US} {vm : US} {w : Nat → Int32} (hI : Inv vob vn tx i0 i1 vm w)  (k0 : Int32) : ∃ rx rm, f_X11_status vob k0 = some rx ∧ f_X12_status vm k0 = some rm ∧ rx.1 = rm.1 ∧ Inv rx.2 vn tx i0 i1 rm.2 w := by
  sorry
theorem sim_count {N : Nat} (hN : 200000 ≤ N) {vob vn : US} {tx : Nat → Int32} {i0 i1 : Option US} {vm : US} {w : Nat → Int32} (hI : Inv vob vn tx i0 i1 vm w)  (k0 : Int32) : ∃ rx rm, f_X11_count vob vn k0 = some rx ∧ f_X12_count N vm w k0 = some rm ∧ rx.1 = rm.1 ∧ Inv rx.2 vn tx i0 i1 rm.2 w := by
  sorry
theorem sim_digest {N : Nat} (hN : 200000 ≤ N) {vob vn : US} {tx : Nat → Int32} {i0 i1 : Option US} {vm : US} {w : Nat → Int32} (hI : Inv vob vn tx i0 i1 vm w)   : ∃ rx rm, f_X11_digest N vob vn = some rx ∧ f_X12_digest N vm w = some rm ∧ rx = rm ∧ Inv vob vn tx i0 i1 vm w := by
  sorry
