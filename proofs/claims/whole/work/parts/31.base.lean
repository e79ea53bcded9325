/-! pure base: checks, ranges, what Inv looks at -/
theorem ck_in {α : Type} {i n : Nat} {k : Option α} (h : i < n) (hn : n < 2 ^ 31) : (if nI i < 0 ∨ n ≤ (nI i).toNatClampNeg then none else k) = k := if_neg (vp_in_nI h hn)
theorem bnd_eq {α β : Type} (x : α) (f : α → Option β) : bnd x f = f x := rfl
theorem bs {α β : Type} (x : α) (f : α → Option β) : (some x).bind f = f x := rfl
theorem b2i_t : b2i true = 1 := rfl
theorem b2i_f : b2i false = 0 := rfl
theorem lgc_lt (x y : Int64) : lg_cmp x y < 0 ↔ x < y := by
  unfold lg_cmp
  by_cases h : x > y
  · rw [if_pos h]
    exact ⟨fun a => absurd a (by decide), fun a => by rw [gt_iff_lt, Int64.lt_iff_toInt_lt] at h; rw [Int64.lt_iff_toInt_lt] at a; omega⟩
  · rw [if_neg h]
    by_cases h2 : x = y
    · rw [if_pos h2]
      exact ⟨fun a => absurd a (by decide), fun a => by rw [Int64.lt_iff_toInt_lt, h2] at a; omega⟩
    · rw [if_neg h2]
      refine ⟨fun _ => ?_, fun _ => by decide⟩
      rw [gt_iff_lt, Int64.lt_iff_toInt_lt] at h
      rw [← Int64.toInt_inj] at h2
      rw [Int64.lt_iff_toInt_lt]
      omega
theorem lgc_gt (x y : Int64) : 0 < lg_cmp x y ↔ y < x := by
  unfold lg_cmp
  by_cases h : x > y
  · rw [if_pos h]
    exact ⟨fun _ => h, fun _ => by decide⟩
  · rw [if_neg h]
    by_cases h2 : x = y
    · rw [if_pos h2]
      exact ⟨fun a => absurd a (by decide), fun a => absurd a h⟩
    · rw [if_neg h2]
      exact ⟨fun a => absurd a (by decide), fun a => absurd a h⟩
theorem wide_lt (a b : Int32) : a.toInt64 < b.toInt64 ↔ a < b := by
  rw [Int64.lt_iff_toInt_lt, Int32.lt_iff_toInt_lt, Int32.toInt_toInt64, Int32.toInt_toInt64]
theorem in_w (x a b : Int32) : f_X12_in x.toInt64 a.toInt64 b.toInt64 = f_X11_within x a b := by
  unfold f_X12_in f_X11_within
  by_cases h1 : x < a
  · rw [if_pos ((lgc_lt _ _).mpr ((wide_lt _ _).mpr h1)), if_pos h1]
  · rw [if_neg (fun h => h1 ((wide_lt _ _).mp ((lgc_lt _ _).mp h))), if_neg h1]
    by_cases h2 : b < x
    · rw [if_pos ((lgc_gt _ _).mpr ((wide_lt _ _).mpr h2)), if_pos h2]
    · rw [if_neg (fun h => h2 ((wide_lt _ _).mp ((lgc_gt _ _).mp h))), if_neg h2]
/-- a number between two small ones, or not -/
theorem wi (x : Int32) (a b : Nat) (hb : b < 2 ^ 31) (hab : a ≤ b) : (f_X11_within x (nI a) (nI b) = some true ∧ ∃ j, a ≤ j ∧ j ≤ b ∧ x = nI j) ∨ f_X11_within x (nI a) (nI b) = some false := by
  unfold f_X11_within
  by_cases h1 : x < nI a
  · exact Or.inr (if_pos h1)
  · rw [if_neg h1]
    by_cases h2 : nI b < x
    · exact Or.inr (if_pos h2)
    · rw [if_neg h2]
      refine Or.inl ⟨rfl, ?_⟩
      have h0 : ¬ x < 0 := by
        intro h
        apply h1
        rw [Int32.lt_iff_toInt_lt] at h ⊢
        rw [nI_toInt (by omega)]
        have : (0 : Int32).toInt = 0 := by decide
        omega
      obtain ⟨j, hj, rfl⟩ := nI_of h0
      refine ⟨j, ?_, ?_, rfl⟩
      · rcases Nat.lt_or_ge j a with q | q
        · exact absurd (nI_lt q (by omega)) h1
        · exact q
      · rcases Nat.lt_or_ge b j with q | q
        · exact absurd (nI_lt q hj) h2
        · exact q
theorem wi_out (x : Int32) (n : Nat) (hn : n ≤ 31) : (f_X11_within x 0 (nI n - 1) = some true ∧ ∃ j, j < n ∧ x = nI j) ∨ f_X11_within x 0 (nI n - 1) = some false := by
  rcases Nat.eq_zero_or_pos n with rfl | hp
  · refine Or.inr ?_
    unfold f_X11_within
    by_cases h : x < 0
    · rw [if_pos h]
    · rw [if_neg h, if_pos]
      obtain ⟨j, hj, rfl⟩ := nI_of h
      show nI 0 - nI 1 < nI j
      rw [Int32.lt_iff_toInt_lt, pk_sub_toInt (by omega) (by omega), nI_toInt hj]
      omega
  · have e : nI n - 1 = nI (n - 1) := pk_sub (a := n) (b := 1) hp
    rw [e]
    rcases wi x 0 (n - 1) (by omega) (Nat.zero_le _) with ⟨h, j, -, h2, h3⟩ | h
    · exact Or.inl ⟨h, j, by omega, h3⟩
    · exact Or.inr h
theorem pow5 {n : Nat} (h : n ≤ 5) : 2 ^ n ≤ 32 ∧ 1 ≤ 2 ^ n := by
  have : n = 0 ∨ n = 1 ∨ n = 2 ∨ n = 3 ∨ n = 4 ∨ n = 5 := by omega
  rcases this with rfl | rfl | rfl | rfl | rfl | rfl <;> decide
theorem shl1 {n : Nat} (h : n ≤ 5) : (1 : Int32) <<< (nI n &&& 31) = nI (2 ^ n) := by
  have : n = 0 ∨ n = 1 ∨ n = 2 ∨ n = 3 ∨ n = 4 ∨ n = 5 := by omega
  rcases this with rfl | rfl | rfl | rfl | rfl | rfl <;> decide
theorem alls {n : Nat} (h : n ≤ 5) : (1 : Int32) <<< (nI n &&& 31) - 1 = nI (2 ^ n - 1) := by
  have : n = 0 ∨ n = 1 ∨ n = 2 ∨ n = 3 ∨ n = 4 ∨ n = 5 := by omega
  rcases this with rfl | rfl | rfl | rfl | rfl | rfl <;> decide
/-- the parts of the reference's object that Inv looks at are the same -/
def ScrM (a b : US) : Prop := b.2.1 = a.2.1 ∧ b.1 17 = a.1 17 ∧ b.2.2 1 = a.2.2 1 ∧ b.2.2 2 = a.2.2 2 ∧ b.2.2 3 = a.2.2 3 ∧ b.2.2 16 = a.2.2 16
theorem ScrM.rf (a : US) : ScrM a a := ⟨rfl, rfl, rfl, rfl, rfl, rfl⟩
theorem ScrM.tr {a b c : US} (h : ScrM a b) (g : ScrM b c) : ScrM a c := ⟨g.1.trans h.1, g.2.1.trans h.2.1, g.2.2.1.trans h.2.2.1, g.2.2.2.1.trans h.2.2.2.1, g.2.2.2.2.1.trans h.2.2.2.2.1, g.2.2.2.2.2.trans h.2.2.2.2.2⟩
theorem Inv.scr {vob vn : US} {tx : Nat → Int32} {i0 i1 : Option US} {vm vm' : US} {w : Nat → Int32} (h : Inv vob vn tx i0 i1 vm w) (g : ScrM vm vm') : Inv vob vn tx i0 i1 vm' w := by
  obtain ⟨g1, g2, g3, g4, g5, g6⟩ := g
  unfold Inv ImR TxR at h ⊢
  rw [g1, g2, g3, g4, g5, g6]
  exact h
theorem Inv.bad {vob vn : US} {tx : Nat → Int32} {i0 i1 : Option US} {vm : US} {w : Nat → Int32} (h : Inv vob vn tx i0 i1 vm w) : Inv (upi vob 6 (vob.1 6 + 1)) vn tx i0 i1 (upa vm 3 0 (vm.2.2 3 0 + 1)) w := by
  obtain ⟨h1, h2, h3, h4, ⟨h5, h6, h7⟩, h8, h9⟩ := h
  exact ⟨h1, h2, h3, h4, ⟨by show vob.1 6 + 1 = vm.2.2 3 0 + 1; rw [h5], h6, h7⟩, h8, h9⟩
theorem Inv.no {vob vn : US} {tx : Nat → Int32} {i0 i1 : Option US} {vm : US} {w : Nat → Int32} (h : Inv vob vn tx i0 i1 vm w) : Inv (upi vob 7 (vob.1 7 + 1)) vn tx i0 i1 (upa vm 3 1 (vm.2.2 3 1 + 1)) w := by
  obtain ⟨h1, h2, h3, h4, ⟨h5, h6, h7⟩, h8, h9⟩ := h
  exact ⟨h1, h2, h3, h4, ⟨h5, by show vob.1 7 + 1 = vm.2.2 3 1 + 1; rw [h6], h7⟩, h8, h9⟩
theorem Inv.full {vob vn : US} {tx : Nat → Int32} {i0 i1 : Option US} {vm : US} {w : Nat → Int32} (h : Inv vob vn tx i0 i1 vm w) : Inv (upi vob 8 (vob.1 8 + 1)) vn tx i0 i1 (upa vm 3 2 (vm.2.2 3 2 + 1)) w := by
  obtain ⟨h1, h2, h3, h4, ⟨h5, h6, h7⟩, h8, h9⟩ := h
  exact ⟨h1, h2, h3, h4, ⟨h5, h6, by show vob.1 8 + 1 = vm.2.2 3 2 + 1; rw [h7]⟩, h8, h9⟩
theorem m_bad (vm : US) (x : Int32) : f_X12_bad vm x = some (x, upa vm 3 0 (vm.2.2 3 0 + 1)) := rfl
theorem m_no (vm : US) (x : Int32) : f_X12_no vm x = some (x, upa vm 3 1 (vm.2.2 3 1 + 1)) := rfl
theorem m_full (vm : US) : f_X12_full vm = some (-4, upa vm 3 2 (vm.2.2 3 2 + 1)) := rfl
theorem m_things (vm : US) (w : Nat → Int32) : f_X12_things vm w = some (w 0) := rfl
theorem m_errands (vm : US) (w : Nat → Int32) : f_X12_errands vm w = some (w 28) := rfl
theorem m_rules (vm : US) (w : Nat → Int32) : f_X12_rules vm w = some (w 39) := rfl
theorem Inv.now {vob vn vn' : US} {tx : Nat → Int32} {i0 i1 : Option US} {vm : US} {w w' : Nat → Int32} (h : Inv vob vn tx i0 i1 vm w) (g : Both vn' w') : Inv vob vn' tx i0 i1 vm w' := ⟨g, h.2⟩
theorem sim_open {N : Nat} (hN : 200000 ≤ N) {vob vn : US} {tx : Nat → Int32} {i0 i1 : Option US} {vm : US} {w : Nat → Int32} (hI : Inv vob vn tx i0 i1 vm w) : ∃ rx rm, f_X11_open vob vn = some rx ∧ f_X12_open vm w = some rm ∧ rx = rm ∧ Inv vob vn tx i0 i1 vm w := by
  obtain ⟨a, hv, hx, hm⟩ := hI.1
  exact ⟨_, _, rfl, rfl, hx.2.2.2.1.trans hm.2.2.1.symm, hI⟩
theorem sim_clear {N : Nat} (hN : 200000 ≤ N) {vob vn : US} {tx : Nat → Int32} {i0 i1 : Option US} {vm : US} {w : Nat → Int32} (hI : Inv vob vn tx i0 i1 vm w) : ∃ rx rm, f_X11_clear vob = some rx ∧ f_X12_clear vm = some rm ∧ rx.1 = rm.1 ∧ Inv rx.2 vn tx i0 i1 rm.2 w := by
  obtain ⟨h1, h2, h3, ⟨n, hn, e1, e2, h4⟩, h5⟩ := hI
  exact ⟨_, _, rfl, rfl, e1.trans e2.symm, h1, h2, h3, ⟨0, by omega, rfl, rfl, fun k hk => absurd hk (Nat.not_lt_zero k)⟩, h5⟩
theorem sim_free {N : Nat} (hN : 200000 ≤ N) {vob vn : US} {tx : Nat → Int32} {i0 i1 : Option US} {vm : US} {w : Nat → Int32} (hI : Inv vob vn tx i0 i1 vm w) : ∃ rx rm, f_X11_free vob vn = some rx ∧ f_X12_free vm w = some rm ∧ rx.1 = rm.1 ∧ Inv vob rx.2 tx i0 i1 vm rm.2 := by
  obtain ⟨a, ⟨v0, v1, v2, v3, v4, v5, v6, v7, v8, v9, v10⟩, ⟨x0, x1, x2, x3, x4, x5, x6, x7, x8, x9, x10⟩, ⟨m0, m1, m2, m3, m4, m5, m6, m7, m8, m9⟩⟩ := hI.1
  refine ⟨_, _, rfl, rfl, x5.trans m4.symm, hI.now ⟨(fun k => if k = 11 then 0 else a.1 k, a.2), ?_, ?_, ?_⟩⟩
  · exact ⟨v0, v1, v2, v3, v4, Nat.zero_le _, v6, v7, v8, fun i hi => absurd hi (Nat.not_lt_zero i), v10⟩
  · exact ⟨x0, x1, x2, x3, x4, rfl, x6, x7, x8, fun i hi => absurd hi (Nat.not_lt_zero i), x10⟩
  · refine ⟨m0, m1, m2, m3, rfl, m5, fun i hi => ?_, fun i hi => ?_, fun i hi => absurd hi (Nat.not_lt_zero i), fun i hi => ?_⟩
    · have hi : i < a.1 0 := hi
      show (upd w 39 0) _ = _ ∧ (upd w 39 0) _ = _ ∧ (upd w 39 0) _ = _ ∧ (upd w 39 0) _ = _ ∧ (upd w 39 0) _ = _
      simp only [upd]
      rw [if_neg (by omega), if_neg (by omega), if_neg (by omega), if_neg (by omega), if_neg (by omega)]
      exact m6 i hi
    · have hi : i < a.1 8 := hi
      show (upd w 39 0) _ = _ ∧ (upd w 39 0) _ = _
      simp only [upd]
      rw [if_neg (by omega), if_neg (by omega)]
      exact m7 i hi
    · have hi : i < a.1 15 := hi
      show (upd w 39 0) _ = _
      simp only [upd]
      rw [if_neg (by omega)]
      exact m9 i hi
