theorem fin_bit : ∀ t, t < 5 → ∀ wh, wh < 32 → (((nI wh >>> (nI t &&& 31)) &&& 1) = nI (wh / 2 ^ t % 2) ∧ nI wh ^^^ ((1 : Int32) <<< (nI t &&& 31)) = nI (wh ^^^ 2 ^ t) ∧ nI wh ||| ((1 : Int32) <<< (nI t &&& 31)) = nI (wh ||| 2 ^ t)) := by decide +kernel
theorem pos0 {n : Nat} (h : 0 < n) (hn : n < 2 ^ 31) : (0 : Int32) < nI n := nI_lt (a := 0) h hn
theorem fin_xlt : ∀ n, n < 6 → ∀ t, t < 5 → ∀ wh, wh < 32 → (t < n → wh < 2 ^ n → wh ^^^ 2 ^ t < 2 ^ n) := by decide +kernel
theorem fin_xor : ∀ t, t < 5 → ∀ wh, wh < 32 → ∀ i, i < 5 → (wh ^^^ 2 ^ t) / 2 ^ i % 2 = if i = t then 1 - wh / 2 ^ t % 2 else wh / 2 ^ i % 2 := by decide +kernel
theorem fin_or : ∀ n, n < 5 → ∀ wh, wh < 32 → wh < 2 ^ n → (wh ||| 2 ^ n < 2 ^ (n + 1) ∧ ∀ i, i < 5 → (wh ||| 2 ^ n) / 2 ^ i % 2 = if i = n then 1 else wh / 2 ^ i % 2) := by decide +kernel
theorem pow_mono {a b : Nat} (h : a ≤ b) : 2 ^ a ≤ 2 ^ b := Nat.pow_le_pow_right (by decide) h
theorem sim_damp {N : Nat} (hN : 200000 ≤ N) {vob vn : US} {tx : Nat → Int32} {i0 i1 : Option US} {vm : US} {w : Nat → Int32} (hI : Inv vob vn tx i0 i1 vm w) (k0 : Int32) : ∃ rx rm, f_X11_damp vob vn k0 = some rx ∧ f_X12_damp vm w k0 = some rm ∧ rx.1 = rm.1 ∧ Inv rx.2.1 rx.2.2 tx i0 i1 rm.2.1 rm.2.2 := by
  have e : f_X12_in k0.toInt64 0 9 = f_X11_within k0 0 9 := in_w k0 0 9
  unfold f_X11_damp f_X12_damp
  rw [e]
  rcases wi k0 0 9 (by decide) (by decide) with ⟨h, j, -, hj, rfl⟩ | h
  · rw [show f_X11_within (nI j) 0 9 = some true from h]
    obtain ⟨a, ⟨v0, v1, v2, v3, v4, v5, v6, v7, v8, v9, v10⟩, ⟨x0, x1, x2, x3, x4, x5, x6, x7, x8, x9, x10⟩, ⟨m0, m1, m2, m3, m4, m5, m6, m7, m8, m9⟩⟩ := hI.1
    refine ⟨_, _, rfl, rfl, x2.trans m1.symm, hI.now ⟨(fun k => if k = 6 then j else a.1 k, a.2), ?_, ?_, ?_⟩⟩
    · exact ⟨v0, v1, hj, v3, v4, v5, v6, v7, v8, v9, v10⟩
    · exact ⟨x0, x1, rfl, x3, x4, x5, x6, x7, x8, x9, x10⟩
    · refine ⟨m0, rfl, m2, m3, m4, m5, fun i hi => ?_, fun i hi => ?_, fun i hi => ?_, fun i hi => ?_⟩
      · have hi : i < a.1 0 := hi
        show (upd w 26 (nI j)) _ = _ ∧ (upd w 26 (nI j)) _ = _ ∧ (upd w 26 (nI j)) _ = _ ∧ (upd w 26 (nI j)) _ = _ ∧ (upd w 26 (nI j)) _ = _
        simp only [upd]
        rw [if_neg (by omega), if_neg (by omega), if_neg (by omega), if_neg (by omega), if_neg (by omega)]
        exact m6 i hi
      · show (upd w 26 (nI j)) _ = _ ∧ (upd w 26 (nI j)) _ = _
        simp only [upd]
        rw [if_neg (by omega), if_neg (by omega)]
        exact m7 i hi
      · show (upd w 26 (nI j)) _ = _ ∧ (upd w 26 (nI j)) _ = _ ∧ (upd w 26 (nI j)) _ = _
        simp only [upd]
        rw [if_neg (by omega), if_neg (by omega), if_neg (by omega)]
        exact m8 i hi
      · show (upd w 26 (nI j)) _ = _
        simp only [upd]
        rw [if_neg (by omega)]
        exact m9 i hi
  · rw [show f_X11_within k0 0 9 = some false from h]
    refine ⟨_, _, rfl, rfl, ?_, ?_⟩
    · rfl
    · exact hI.bad
theorem sim_drop {N : Nat} (hN : 200000 ≤ N) {vob vn : US} {tx : Nat → Int32} {i0 i1 : Option US} {vm : US} {w : Nat → Int32} (hI : Inv vob vn tx i0 i1 vm w) : ∃ rx rm, f_X11_drop vob vn = some rx ∧ f_X12_drop vm w = some rm ∧ rx.1 = rm.1 ∧ Inv rx.2.1 rx.2.2 tx i0 i1 rm.2.1 rm.2.2 := by
  obtain ⟨a, ⟨v0, v1, v2, v3, v4, v5, v6, v7, v8, v9, v10⟩, ⟨x0, x1, x2, x3, x4, x5, x6, x7, x8, x9, x10⟩, ⟨m0, m1, m2, m3, m4, m5, m6, m7, m8, m9⟩⟩ := hI.1
  unfold f_X11_drop f_X12_drop
  rw [m_errands, bs, m3, x4]
  rcases Nat.eq_zero_or_pos (a.1 8) with h0 | hp
  · rw [h0, if_neg (by decide), if_pos (show nI 0 = 0 from rfl)]
    refine ⟨_, _, rfl, rfl, ?_, ?_⟩
    · rfl
    · exact hI.no
  · rw [if_pos (pos0 hp (by omega)), if_neg (nI_ne0 hp (by omega))]
    have e : nI (a.1 8) - 1 = nI (a.1 8 - 1) := pk_sub (a := a.1 8) (b := 1) hp
    refine ⟨_, _, rfl, rfl, ?_, hI.now ⟨(fun k => if k = 8 then a.1 8 - 1 else a.1 k, a.2), ?_, ?_, ?_⟩⟩
    · show nI (a.1 8) - 1 = w 28 - 1
      rw [m3]
    · exact ⟨v0, v1, v2, v3, by show a.1 8 - 1 ≤ 5; omega, v5, v6, v7, fun i hi => v8 i (by have hi : i < a.1 8 - 1 := hi; omega), v9, v10⟩
    · refine ⟨x0, x1, x2, x3, ?_, x5, x6, x7, fun i hi => x8 i (by have hi : i < a.1 8 - 1 := hi; omega), x9, x10⟩
      exact e
    · refine ⟨m0, m1, m2, ?_, m4, m5, fun i hi => ?_, fun i hi => ?_, fun i hi => ?_, fun i hi => ?_⟩
      · show w 28 - 1 = nI (a.1 8 - 1)
        rw [m3, e]
      · have hi : i < a.1 0 := hi
        show (upd w 28 _) _ = _ ∧ (upd w 28 _) _ = _ ∧ (upd w 28 _) _ = _ ∧ (upd w 28 _) _ = _ ∧ (upd w 28 _) _ = _
        simp only [upd]
        rw [if_neg (by omega), if_neg (by omega), if_neg (by omega), if_neg (by omega), if_neg (by omega)]
        exact m6 i hi
      · have hi : i < a.1 8 - 1 := hi
        show (upd w 28 _) _ = _ ∧ (upd w 28 _) _ = _
        simp only [upd]
        rw [if_neg (by omega), if_neg (by omega)]
        exact m7 i (by omega)
      · show (upd w 28 _) _ = _ ∧ (upd w 28 _) _ = _ ∧ (upd w 28 _) _ = _
        simp only [upd]
        rw [if_neg (by omega), if_neg (by omega), if_neg (by omega)]
        exact m8 i hi
      · show (upd w 28 _) _ = _
        simp only [upd]
        rw [if_neg (by omega)]
        exact m9 i hi
theorem sim_status {N : Nat} (hN : 200000 ≤ N) {vob vn : US} {tx : Nat → Int32} {i0 i1 : Option US} {vm : US} {w : Nat → Int32} (hI : Inv vob vn tx i0 i1 vm w) (k0 : Int32) : ∃ rx rm, f_X11_status vob k0 = some rx ∧ f_X12_status vm k0 = some rm ∧ rx.1 = rm.1 ∧ Inv rx.2 vn tx i0 i1 rm.2 w := by
  have e : f_X12_in k0.toInt64 0 2 = f_X11_within k0 0 2 := in_w k0 0 2
  unfold f_X11_status f_X12_status
  rw [e]
  have hs := hI.2.2.2.2.1
  rcases wi k0 0 2 (by decide) (by decide) with ⟨h, j, -, hj, rfl⟩ | h
  · rw [show f_X11_within (nI j) 0 2 = some true from h]
    have : j = 0 ∨ j = 1 ∨ j = 2 := by omega
    rcases this with rfl | rfl | rfl
    · exact ⟨_, _, rfl, rfl, hs.1, hI⟩
    · exact ⟨_, _, rfl, rfl, hs.2.1, hI⟩
    · exact ⟨_, _, rfl, rfl, hs.2.2, hI⟩
  · have h : f_X11_within k0 0 2 = some false := h
    rw [h]
    have n0 : ¬ k0 = 0 := fun q => by rw [q] at h; cases h
    have n1 : ¬ k0 = 1 := fun q => by rw [q] at h; cases h
    have n2 : ¬ k0 = 2 := fun q => by rw [q] at h; cases h
    rw [if_neg n0, if_neg n1, if_neg n2]
    refine ⟨_, _, rfl, rfl, ?_, ?_⟩
    · rfl
    · exact hI.bad
theorem sim_part {N : Nat} (hN : 200000 ≤ N) {vob vn : US} {tx : Nat → Int32} {i0 i1 : Option US} {vm : US} {w : Nat → Int32} (hI : Inv vob vn tx i0 i1 vm w) (k0 : Int32) : ∃ rx rm, f_X11_part vob k0 = some rx ∧ f_X12_part vm k0 = some rm ∧ rx.1 = rm.1 ∧ Inv rx.2 vn tx i0 i1 rm.2 w := by
  unfold f_X11_part f_X12_part
  rcases wi k0 0 1 (by decide) (by decide) with ⟨h, j, -, hj, rfl⟩ | h
  · rw [show f_X11_within (nI j) 0 1 = some true from h]
    have : j = 0 ∨ j = 1 := by omega
    rcases this with rfl | rfl
    · exact ⟨_, _, rfl, rfl, hI.2.2.2.2.2.1, hI⟩
    · exact ⟨_, _, rfl, rfl, hI.2.2.2.2.2.2, hI⟩
  · have h : f_X11_within k0 0 1 = some false := h
    rw [h]
    have n0 : ¬ k0 = 0 := fun q => by rw [q] at h; cases h
    have n1 : ¬ k0 = 1 := fun q => by rw [q] at h; cases h
    simp only [if_neg n0, if_neg n1]
    refine ⟨_, _, rfl, rfl, ?_, ?_⟩
    · rfl
    · exact hI.bad
theorem sim_undo {N : Nat} (hN : 200000 ≤ N) {vob vn : US} {tx : Nat → Int32} {i0 i1 : Option US} {vm : US} {w : Nat → Int32} (hI : Inv vob vn tx i0 i1 vm w) : ∃ rx rm, f_X11_undo vob vn = some rx ∧ f_X12_undo vm w = some rm ∧ rx.1 = rm.1 ∧ Inv rx.2.1 rx.2.2 tx i0 i1 rm.2.1 rm.2.2 := by
  obtain ⟨a, ⟨v0, v1, v2, v3, v4, v5, v6, v7, v8, v9, v10⟩, ⟨x0, x1, x2, x3, x4, x5, x6, x7, x8, x9, x10⟩, ⟨m0, m1, m2, m3, m4, m5, m6, m7, m8, m9⟩⟩ := hI.1
  unfold f_X11_undo f_X12_undo f_X9_goBack
  have e52 : (52 : Int32).toNatClampNeg = 52 := by decide
  have e27 : (27 : Int32).toNatClampNeg = 27 := by decide
  have c52 : ∀ {α : Type} (k : Option α), (if (52 : Int32) < 0 ∨ 63 ≤ (52 : Int32).toNatClampNeg then none else k) = k := fun k => if_neg (by decide)
  have c27 : ∀ {α : Type} (k : Option α), (if (27 : Int32) < 0 ∨ 63 ≤ (27 : Int32).toNatClampNeg then none else k) = k := fun k => if_neg (by decide)
  simp only [c52, c27, e52, e27, bnd_eq]
  rw [x6, m5]
  rcases Nat.eq_zero_or_pos (a.1 15) with h0 | hp
  · rw [h0, if_neg (by decide), if_pos (show nI 0 = 0 from rfl)]
    refine ⟨_, _, rfl, rfl, ?_, ?_⟩
    · rfl
    · exact hI.no
  · rw [if_pos (pos0 hp (by omega)), if_pos (pos0 hp (by omega)), if_neg (nI_ne0 hp (by omega))]
    have e : nI (a.1 15) - 1 = nI (a.1 15 - 1) := pk_sub (a := a.1 15) (b := 1) hp
    have eu : upd w 52 (nI (a.1 15) - 1) 52 = nI (a.1 15 - 1) := by rw [e]; exact if_pos rfl
    have e53 : (53 : Int32) + nI (a.1 15 - 1) = nI (53 + (a.1 15 - 1)) := nI_add 53 _
    rw [eu, e53, e, ck_in (by omega) (by decide), ck_in (by omega) (by decide), nI_clamp (by omega), nI_clamp (by omega)]
    have ep : upd w 52 (nI (a.1 15 - 1)) (53 + (a.1 15 - 1)) = nI (a.2 16 (a.1 15 - 1)) := by
      simp only [upd]
      rw [if_neg (by omega)]
      exact m9 _ (by omega)
    rw [ep]
    have hq := v10 (a.1 15 - 1) (by omega)
    refine ⟨_, _, rfl, rfl, rfl, hI.now ⟨(fun k => if k = 15 then a.1 15 - 1 else if k = 7 then a.2 16 (a.1 15 - 1) else a.1 k, a.2), ?_, ?_, ?_⟩⟩
    · exact ⟨v0, v1, v2, hq, v4, v5, by show a.1 15 - 1 ≤ 10; omega, v7, v8, v9, fun i hi => v10 i (by have hi : i < a.1 15 - 1 := hi; omega)⟩
    · exact ⟨x0, x1, x2, x10 (a.1 15 - 1) (by omega), x4, x5, rfl, x7, x8, x9, fun i hi => x10 i (by have hi : i < a.1 15 - 1 := hi; omega)⟩
    · refine ⟨m0, m1, rfl, m3, m4, rfl, fun i hi => ?_, fun i hi => ?_, fun i hi => ?_, fun i hi => ?_⟩
      · have hi : i < a.1 0 := hi
        show (upd (upd w 52 _) 27 _) _ = _ ∧ (upd (upd w 52 _) 27 _) _ = _ ∧ (upd (upd w 52 _) 27 _) _ = _ ∧ (upd (upd w 52 _) 27 _) _ = _ ∧ (upd (upd w 52 _) 27 _) _ = _
        simp only [upd]
        rw [if_neg (by omega), if_neg (by omega), if_neg (by omega), if_neg (by omega), if_neg (by omega), if_neg (by omega), if_neg (by omega), if_neg (by omega), if_neg (by omega), if_neg (by omega)]
        exact m6 i hi
      · have hi : i < a.1 8 := hi
        show (upd (upd w 52 _) 27 _) _ = _ ∧ (upd (upd w 52 _) 27 _) _ = _
        simp only [upd]
        rw [if_neg (by omega), if_neg (by omega), if_neg (by omega), if_neg (by omega)]
        exact m7 i hi
      · have hi : i < a.1 11 := hi
        show (upd (upd w 52 _) 27 _) _ = _ ∧ (upd (upd w 52 _) 27 _) _ = _ ∧ (upd (upd w 52 _) 27 _) _ = _
        simp only [upd]
        rw [if_neg (by omega), if_neg (by omega), if_neg (by omega), if_neg (by omega), if_neg (by omega), if_neg (by omega)]
        exact m8 i hi
      · have hi : i < a.1 15 - 1 := hi
        show (upd (upd w 52 _) 27 _) _ = _
        simp only [upd]
        rw [if_neg (by omega), if_neg (by omega)]
        exact m9 i (by omega)
theorem un {w : Nat → Int32} {k j : Nat} {x v : Int32} (h : w j = v) (hj : j ≠ k) : upd w k x j = v := (if_neg hj).trans h
theorem ift {α : Type} (A B : α) : (if b2i true = 0 then A else B) = B := if_neg (by decide)
theorem iff0 {α : Type} (A B : α) : (if b2i false = 0 then A else B) = A := if_pos rfl
theorem half2 (x i : Nat) : x / 2 ^ i % 2 = 0 ∨ x / 2 ^ i % 2 = 1 := by omega
theorem ht_x {v : US} {n : Nat} (hn : n ≤ 5) (e : v.1 0 = nI n) (x : Int32) : (f_X9_hasThing v x = some true ∧ ∃ j, j < n ∧ x = nI j) ∨ f_X9_hasThing v x = some false := by
  unfold f_X9_hasThing
  rw [e]
  rcases wi_out x n (by omega) with ⟨h, hj⟩ | h
  · exact Or.inl ⟨by rw [h]; rfl, hj⟩
  · exact Or.inr (by rw [h]; rfl)
theorem ht_m {vm v : US} {w : Nat → Int32} (e : v.1 0 = w 0) (x : Int32) : f_X12_isThing vm w x = f_X9_hasThing v x := by
  unfold f_X12_isThing f_X9_hasThing
  rw [m_things, bs, ← e]
  have h : f_X12_in x.toInt64 0 ((v.1 0 - 1).toInt64) = f_X11_within x 0 (v.1 0 - 1) := in_w x 0 (v.1 0 - 1)
  rw [h]
theorem ip_x {vob v : US} {n : Nat} (hn : n ≤ 5) (e : v.1 0 = nI n) (x y : Int32) : (f_X11_isPull vob v x y = some true ∧ (∃ j, j < n ∧ x = nI j) ∧ ∃ j, j ≤ 20 ∧ y = nI j) ∨ f_X11_isPull vob v x y = some false := by
  unfold f_X11_isPull
  rcases ht_x hn e x with ⟨h, hj⟩ | h
  · rw [h, bs, b2i_t, if_neg (by decide)]
    rcases wi y 0 20 (by decide) (by decide) with ⟨g, j, -, hk, ek⟩ | g
    · rw [show f_X11_within y 0 20 = some true from g]
      exact Or.inl ⟨rfl, hj, j, hk, ek⟩
    · rw [show f_X11_within y 0 20 = some false from g]
      exact Or.inr rfl
  · rw [h]
    exact Or.inr rfl
theorem ip_m {vob vm v : US} {w : Nat → Int32} (e : v.1 0 = w 0) (x y : Int32) : f_X12_isPull vm w x y = f_X11_isPull vob v x y := by
  unfold f_X12_isPull f_X11_isPull
  rw [ht_m e, show f_X12_in y.toInt64 0 20 = f_X11_within y 0 20 from in_w y 0 20]
theorem hs_x {v : US} {n : Nat} (hn : n ≤ 5) (e : v.1 0 = nI n) (x : Int32) : (f_X9_hasSet v x = some true ∧ ∃ j, j < 2 ^ n ∧ x = nI j) ∨ f_X9_hasSet v x = some false := by
  unfold f_X9_hasSet
  rw [e, alls hn]
  have hp := pow5 hn
  rcases wi x 0 (2 ^ n - 1) (by omega) (Nat.zero_le _) with ⟨h, j, -, hj, ej⟩ | h
  · rw [show f_X11_within x 0 (nI (2 ^ n - 1)) = some true from h]
    exact Or.inl ⟨rfl, j, by omega, ej⟩
  · rw [show f_X11_within x 0 (nI (2 ^ n - 1)) = some false from h]
    exact Or.inr rfl
theorem hs_m {vm v : US} {w : Nat → Int32} (e : v.1 0 = w 0) (x : Int32) : f_X12_isSet vm w x = f_X9_hasSet v x := by
  unfold f_X12_isSet f_X12_all f_X9_hasSet
  rw [m_things, bs, bs, ← e]
  have h : f_X12_in x.toInt64 0 (((1 : Int32) <<< (v.1 0 &&& 31) - 1).toInt64) = f_X11_within x 0 ((1 : Int32) <<< (v.1 0 &&& 31) - 1) := in_w x 0 _
  rw [h]
theorem of_m {vm : US} {w : Nat → Int32} {t k : Nat} (ht : t < 5) (hk : k < 5) : f_X12_of vm w (nI t) (nI k) = some (w (1 + 5 * t + k)) := by
  unfold f_X12_of
  have e : (1 : Int32) + 5 * nI t + nI k = nI (1 + 5 * t + k) := by
    rw [show (1 : Int32) = nI 1 from rfl, show (5 : Int32) = nI 5 from rfl, pk_mul, nI_add, nI_add]
  rw [e, ck_in (by omega) (by decide), nI_clamp (by omega)]
theorem sim_rope {N : Nat} (hN : 200000 ≤ N) {vob vn : US} {tx : Nat → Int32} {i0 i1 : Option US} {vm : US} {w : Nat → Int32} (hI : Inv vob vn tx i0 i1 vm w) (k0 : Int32) (k1 : Bool) : ∃ rx rm, f_X11_rope vob vn k0 k1 = some rx ∧ f_X12_rope vm w k0 k1 = some rm ∧ rx.1 = rm.1 ∧ Inv rx.2.1 rx.2.2 tx i0 i1 rm.2.1 rm.2.2 := by
  obtain ⟨a, ⟨v0, v1, v2, v3, v4, v5, v6, v7, v8, v9, v10⟩, ⟨x0, x1, x2, x3, x4, x5, x6, x7, x8, x9, x10⟩, ⟨m0, m1, m2, m3, m4, m5, m6, m7, m8, m9⟩⟩ := hI.1
  unfold f_X11_rope f_X12_rope
  rw [ht_m (x0.trans m0.symm)]
  rcases ht_x v0 x0 k0 with ⟨h, t, ht, rfl⟩ | h
  · have hp := pow5 v0
    have hw : a.1 5 < 32 := by omega
    have ht5 : t < 5 := by omega
    obtain ⟨f1, f2, f3⟩ := fin_bit t ht5 (a.1 5) hw
    have hh : f_X11_has (vn.1 5) (nI t) = some (decide (a.1 5 / 2 ^ t % 2 = 1)) := by
      unfold f_X11_has
      rw [x1, f1]
      rcases half2 (a.1 5) t with q | q <;> rw [q] <;> rfl
    have ho : f_X12_of vm w (nI t) 4 = some (nI (a.1 5 / 2 ^ t % 2)) := by
      rw [show (4 : Int32) = nI 4 from rfl, of_m ht5 (by decide), show 1 + 5 * t + 4 = 5 + 5 * t by omega, (m6 t ht).2.2.2.2]
    have e4 : (1 : Int32) + 5 * nI t + 4 = nI (5 + 5 * t) := by
      rw [show (1 : Int32) = nI 1 from rfl, show (5 : Int32) = nI 5 from rfl, show (4 : Int32) = nI 4 from rfl, pk_mul, nI_add, nI_add]
      congr 1; omega
    rw [h, bs, bs, b2i_t, if_neg (by decide), if_neg (by decide), hh, bs]
    have hb24 : (if b2i k1 = 0 then b_X12_rope_24 vm w (nI t) 0 else b_X12_rope_24 vm w (nI t) 1) = b_X12_rope_24 vm w (nI t) (b2i k1) := by cases k1 <;> rfl
    rw [hb24]
    unfold b_X12_rope_24
    rw [ho, bs, e4, ck_in (by omega) (by decide), nI_clamp (by omega)]
    have hd : b2i (decide (a.1 5 / 2 ^ t % 2 = 1)) = nI (a.1 5 / 2 ^ t % 2) := by
      rcases half2 (a.1 5) t with q | q <;> rw [q] <;> rfl
    rw [hd]
    by_cases hc : nI (a.1 5 / 2 ^ t % 2) = b2i k1
    · rw [if_pos hc, if_pos hc]
      refine ⟨_, _, rfl, rfl, ?_, ?_⟩
      · rfl
      · exact hI.no
    · rw [if_neg hc, if_neg hc, x1, f2]
      have hk : b2i k1 = nI (1 - a.1 5 / 2 ^ t % 2) := by
        rcases half2 (a.1 5) t with q | q <;> rw [q] at hc ⊢ <;> cases k1 <;> first | rfl | exact absurd rfl hc
      refine ⟨_, _, rfl, rfl, rfl, hI.now ⟨(fun k => if k = 5 then a.1 5 ^^^ 2 ^ t else a.1 k, a.2), ?_, ?_, ?_⟩⟩
      · exact ⟨v0, fin_xlt (a.1 0) (by omega) t ht5 (a.1 5) hw ht v1, v2, v3, v4, v5, v6, v7, v8, v9, v10⟩
      · exact ⟨x0, rfl, x2, x3, x4, x5, x6, x7, x8, x9, x10⟩
      · refine ⟨un m0 (by omega), un m1 (by omega), un m2 (by omega), un m3 (by omega), un m4 (by omega), un m5 (by omega), fun i hi => ?_, fun i hi => ?_, fun i hi => ?_, fun i hi => ?_⟩
        · have hi : i < a.1 0 := hi
          show (upd w (5 + 5 * t) _) _ = _ ∧ (upd w (5 + 5 * t) _) _ = _ ∧ (upd w (5 + 5 * t) _) _ = _ ∧ (upd w (5 + 5 * t) _) _ = _ ∧ (upd w (5 + 5 * t) _) _ = nI ((a.1 5 ^^^ 2 ^ t) / 2 ^ i % 2)
          rw [fin_xor t ht5 (a.1 5) hw i (by omega)]
          simp only [upd]
          rw [if_neg (by omega), if_neg (by omega), if_neg (by omega), if_neg (by omega)]
          refine ⟨(m6 i hi).1, (m6 i hi).2.1, (m6 i hi).2.2.1, (m6 i hi).2.2.2.1, ?_⟩
          by_cases hit : i = t
          · rw [if_pos (by omega), if_pos hit, hk]
          · rw [if_neg (by omega), if_neg hit]
            exact (m6 i hi).2.2.2.2
        · have hi : i < a.1 8 := hi
          show (upd w (5 + 5 * t) _) _ = _ ∧ (upd w (5 + 5 * t) _) _ = _
          simp only [upd]
          rw [if_neg (by omega), if_neg (by omega)]
          exact m7 i hi
        · have hi : i < a.1 11 := hi
          show (upd w (5 + 5 * t) _) _ = _ ∧ (upd w (5 + 5 * t) _) _ = _ ∧ (upd w (5 + 5 * t) _) _ = _
          simp only [upd]
          rw [if_neg (by omega), if_neg (by omega), if_neg (by omega)]
          exact m8 i hi
        · have hi : i < a.1 15 := hi
          show (upd w (5 + 5 * t) _) _ = _
          simp only [upd]
          rw [if_neg (by omega)]
          exact m9 i hi
  · rw [h]
    refine ⟨_, _, rfl, rfl, ?_, ?_⟩
    · rfl
    · exact hI.bad
