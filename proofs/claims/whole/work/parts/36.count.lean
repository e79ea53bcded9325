/-! counts and typing -/
def pcd : Nat → Nat → Nat
  | 0, _ => 0
  | d + 1, v => v % 2 + pcd d (v / 2)
theorem bits_m {N : Nat} : ∀ d, d < 6 → ∀ v k y, v < 2 ^ d → d < k → f_X12_bits_4 N k (nI y) (nI v) = some (nI (y + pcd d v)) := by
  intro d
  induction d with
  | zero =>
    intro _ v k y hv hk
    obtain ⟨k, rfl⟩ : ∃ j, k = j + 1 := ⟨k - 1, by omega⟩
    have : v = 0 := by omega
    subst this
    rfl
  | succ d ih =>
    intro hd v k y hv hk
    obtain ⟨k, rfl⟩ : ∃ j, k = j + 1 := ⟨k - 1, by omega⟩
    have f1 : ∀ v, v < 32 → (nI v &&& 1 = nI (v % 2) ∧ nI v >>> (1 &&& 31) = nI (v / 2)) := by decide +kernel
    have hv32 : v < 32 := Nat.lt_of_lt_of_le hv (pow_mono (b := 5) (by omega))
    show b_X12_bits_4 N _ _ _ = _
    unfold b_X12_bits_4
    by_cases h0 : v = 0
    · subst h0
      have : ∀ d, pcd d 0 = 0 := by
        intro d
        induction d with
        | zero => rfl
        | succ d ih => show 0 % 2 + pcd d (0 / 2) = 0; rw [Nat.zero_div, ih]
      rw [if_pos (by decide), this, Nat.add_zero]
    · have h1 : ¬ nI v ≤ 0 := fun h => by
        have := nI_lt (a := 0) (b := v) (by omega) (by omega)
        rw [Int32.le_iff_toInt_le] at h
        rw [Int32.lt_iff_toInt_lt] at this
        have : (nI 0).toInt = (0 : Int32).toInt := rfl
        omega
      rw [if_neg h1, (f1 v hv32).1, (f1 v hv32).2, nI_add]
      have := ih (by omega) (v / 2) k (y + v % 2) (by rw [Nat.pow_succ] at hv; omega) (by omega)
      rw [this]
      show _ = some (nI (y + (v % 2 + pcd d (v / 2))))
      rw [Nat.add_assoc]
theorem bits_ms {N v : Nat} (hN : 200000 ≤ N) (hv : v < 32) : f_X12_bits N (nI v) = some (nI (pcd 5 v)) := by
  have := bits_m (N := N) 5 (by omega) v N 0 hv (by omega)
  rw [Nat.zero_add] at this
  exact this
theorem bc_x : ∀ v, v < 32 → f_J6_bitCount_0f7a4 (nI v) = some (nI (pcd 5 v)) := by decide +kernel
theorem nI_nle2 {a b : Nat} (h : b < a) (ha : a < 2 ^ 31) : ¬ nI a ≤ nI b := by
  rw [Int32.le_iff_toInt_le, nI_toInt ha, nI_toInt (Nat.lt_trans h ha)]
  omega
theorem whole_l {N n wh : Nat} {vm : US} {w : Nat → Int32} (hn : n ≤ 5) (hw : wh < 2 ^ n) (e0 : w 0 = nI n) (e5 : ∀ i, i < n → w (5 + 5 * i) = nI (wh / 2 ^ i % 2)) : ∀ d i k, i + d = n → d < k → f_X12_wholeNow_4 N k vm w (nI (wh % 2 ^ i)) (nI i) = some (nI wh) := by
  have hw32 : wh < 32 := Nat.lt_of_lt_of_le hw (pow_mono (b := 5) hn)
  have f1 : ∀ i, i < 5 → ∀ wh, wh < 32 → nI (wh % 2 ^ i) ||| (nI (wh / 2 ^ i % 2) <<< (nI i &&& 31)) = nI (wh % 2 ^ (i + 1)) := by decide +kernel
  intro d
  induction d with
  | zero =>
    intro i k hi hk
    obtain ⟨k, rfl⟩ : ∃ j, k = j + 1 := ⟨k - 1, by omega⟩
    show b_X12_wholeNow_4 N _ _ _ _ _ = _
    unfold b_X12_wholeNow_4
    have : i = n := by omega
    subst this
    rw [m_things, bs, e0, if_pos (nI_le (Nat.le_refl _) (by omega)), Nat.mod_eq_of_lt hw]
  | succ d ih =>
    intro i k hi hk
    obtain ⟨k, rfl⟩ : ∃ j, k = j + 1 := ⟨k - 1, by omega⟩
    show b_X12_wholeNow_4 N _ _ _ _ _ = _
    unfold b_X12_wholeNow_4
    rw [m_things, bs, e0, if_neg (nI_nle2 (by omega) (by omega)), show (4 : Int32) = nI 4 from rfl, of_m (by omega) (by decide), bs, show 1 + 5 * i + 4 = 5 + 5 * i by omega, e5 i (by omega), f1 i (by omega) wh hw32, nI_1]
    exact ih (i + 1) k (by omega) (by omega)
theorem whole_m {N n wh : Nat} {vm : US} {w : Nat → Int32} (hN : 200000 ≤ N) (hn : n ≤ 5) (hw : wh < 2 ^ n) (e0 : w 0 = nI n) (e5 : ∀ i, i < n → w (5 + 5 * i) = nI (wh / 2 ^ i % 2)) : f_X12_wholeNow N vm w = some (nI wh) := by
  have := whole_l (N := N) (vm := vm) hn hw e0 e5 n 0 N (by omega) (by omega)
  have e : wh % 2 ^ 0 = 0 := by omega
  rw [e] at this
  exact this
theorem sim_count {N : Nat} (hN : 200000 ≤ N) {vob vn : US} {tx : Nat → Int32} {i0 i1 : Option US} {vm : US} {w : Nat → Int32} (hI : Inv vob vn tx i0 i1 vm w)  (k0 : Int32) : ∃ rx rm, f_X11_count vob vn k0 = some rx ∧ f_X12_count N vm w k0 = some rm ∧ rx.1 = rm.1 ∧ Inv rx.2 vn tx i0 i1 rm.2 w := by
  obtain ⟨a, ⟨v0, v1, v2, v3, v4, v5, v6, v7, v8, v9, v10⟩, ⟨x0, x1, x2, x3, x4, x5, x6, x7, x8, x9, x10⟩, ⟨m0, m1, m2, m3, m4, m5, m6, m7, m8, m9⟩⟩ := hI.1
  obtain ⟨tn, -, t1, t2, -⟩ := hI.2.2.2.1
  unfold f_X11_count f_X12_count
  rw [show f_X12_in k0.toInt64 0 6 = f_X11_within k0 0 6 from in_w k0 0 6]
  rcases wi k0 0 6 (by decide) (by decide) with ⟨h, j, -, hj, rfl⟩ | h
  · have h : f_X11_within (nI j) 0 6 = some true := h
    simp only [h, bs, ift]
    have hc : j = 0 ∨ j = 1 ∨ j = 2 ∨ j = 3 ∨ j = 4 ∨ j = 5 ∨ j = 6 := by omega
    unfold f_X11_howMany f_X12_counted
    rcases hc with rfl | rfl | rfl | rfl | rfl | rfl | rfl
    · exact ⟨_, _, rfl, rfl, x0.trans m0.symm, hI⟩
    · have hw32 : a.1 5 < 32 := Nat.lt_of_lt_of_le v1 (pow_mono (b := 5) v0)
      rw [if_neg (by decide), if_pos (by decide), if_neg (by decide), if_pos (by decide), x1, bc_x _ hw32, whole_m hN v0 v1 m0 (fun i hi => (m6 i hi).2.2.2.2)]
      simp only [bs]
      rw [bits_ms hN hw32]
      exact ⟨_, _, rfl, rfl, rfl, hI⟩
    · exact ⟨_, _, rfl, rfl, x4.trans m3.symm, hI⟩
    · exact ⟨_, _, rfl, rfl, x5.trans m4.symm, hI⟩
    · exact ⟨_, _, rfl, rfl, x6.trans m5.symm, hI⟩
    · exact ⟨_, _, rfl, rfl, t1.trans t2.symm, hI⟩
    · exact ⟨_, _, rfl, rfl, x2.trans m1.symm, hI⟩
  · have h : f_X11_within k0 0 6 = some false := h
    simp only [h, bs, iff0]
    refine ⟨_, _, rfl, rfl, ?_, ?_⟩
    · rfl
    · exact hI.bad
theorem byte_and (z : Int32) : ∃ j : Nat, j < 256 ∧ z &&& 255 = nI j := by
  refine ⟨(z &&& 255).toBitVec.toNat, ?_, ?_⟩
  · rw [Int32.toBitVec_and, BitVec.toNat_and]
    exact Nat.lt_succ_of_le Nat.and_le_right
  · apply Int32.toBitVec_inj.mp
    show _ = BitVec.ofNat 32 _
    rw [BitVec.ofNat_toNat, BitVec.setWidth_eq]
theorem type_loop {N : Nat} {vn : US} {i0 i1 : Option US} {w : Nat → Int32} {x : Int64} : ∀ d, d ≤ 8 → ∀ k, d < k → ∀ vob tx vm, Inv vob vn tx i0 i1 vm w → (∃ n, vob.1 3 = nI n ∧ n + d ≤ 200) → ∀ yX yM : Int32, (d = 0 ∧ yX = -8 ∧ yM = -1 ∨ ∃ e, d = e + 1 ∧ yX = nI (8 * e) ∧ yM = nI e) → ∃ rx rm, f_X11_type_42 N k vob tx x yX = some rx ∧ f_X12_type_41 N k vm x yM = some rm ∧ rx.1 = rm.1 ∧ Inv rx.2.1 vn rx.2.2 i0 i1 rm.2 w := by
  have g1 : ∀ e, e < 8 → nI (8 * (e + 1)) + (-8) = nI (8 * e) ∧ nI (e + 1) + (-1) = nI e := by decide +kernel
  intro d
  induction d with
  | zero =>
    intro _ k hk vob tx vm hI hn yX yM hy
    obtain ⟨k, rfl⟩ : ∃ j, k = j + 1 := ⟨k - 1, by omega⟩
    obtain ⟨tn, -, t1, t2, -⟩ := hI.2.2.2.1
    rcases hy with ⟨-, rfl, rfl⟩ | ⟨e, he, -⟩
    · exact ⟨_, _, rfl, rfl, t1.trans t2.symm, hI⟩
    · omega
  | succ d ih =>
    intro hd k hk vob tx vm hI hn yX yM hy
    obtain ⟨k, rfl⟩ : ∃ j, k = j + 1 := ⟨k - 1, by omega⟩
    obtain ⟨h1, h2, h3, ⟨n, hn0, t1, t2, ht⟩, h5⟩ := hI
    obtain ⟨n', hn1, hn2⟩ := hn
    have : n' = n := (nI_eq (by omega) (by omega)).mp (hn1.symm.trans t1)
    subst this
    rcases hy with ⟨h, -, -⟩ | ⟨e, he, rfl, rfl⟩
    · omega
    have he : e = d := by omega
    subst he
    show ∃ rx rm, b_X11_type_42 N _ _ _ _ _ = some rx ∧ b_X12_type_41 N _ _ _ _ = some rm ∧ _
    unfold b_X11_type_42 b_X12_type_41
    have l1 : ∀ e, ¬ nI e < 0 ∨ 2 ^ 31 ≤ e := fun e => by
      rcases Nat.lt_or_ge e (2 ^ 31) with q | q
      · left
        rw [Int32.lt_iff_toInt_lt, nI_toInt q]
        have : (0 : Int32).toInt = 0 := by decide
        omega
      · exact Or.inr q
    have lX : ¬ nI (8 * e) < 0 := (l1 _).resolve_right (by omega)
    have lM : ¬ nI e < 0 := (l1 _).resolve_right (by omega)
    rw [if_neg lX, if_neg lM, t1, t2, ck_in (by omega) (by decide), ck_in (by omega) (by decide), nI_clamp (by omega), bnd_eq, show (8 : Int32) * nI e = nI (8 * e) from by rw [show (8 : Int32) = nI 8 from rfl, pk_mul]]
    have hb : ∀ z : Int64, (z &&& 255).toInt32 = z.toInt32 &&& 255 := fun z => by
      rw [Int64.toInt32_and]; rfl
    rw [hb, nI_1]
    refine ih (by omega) k (by omega) _ _ _ ?_ ⟨n' + 1, rfl, by omega⟩ _ _ ?_
    · refine ⟨h1, h2, h3, ⟨n' + 1, by omega, rfl, rfl, fun q hq => ?_⟩, h5⟩
      show upd tx n' _ q = upd (vm.2.2 16) n' _ q ∧ ∃ j, j < 256 ∧ upd tx n' _ q = nI j
      unfold upd
      by_cases c : q = n'
      · rw [if_pos c, if_pos c]
        exact ⟨rfl, byte_and _⟩
      · rw [if_neg c, if_neg c]
        exact ht q (by omega)
    · rcases Nat.eq_zero_or_pos e with rfl | hp
      · exact Or.inl ⟨rfl, by decide, by decide⟩
      · obtain ⟨e, rfl⟩ : ∃ j, e = j + 1 := ⟨e - 1, by omega⟩
        exact Or.inr ⟨e, rfl, (g1 e (by omega)).1, (g1 e (by omega)).2⟩
theorem sim_type {N : Nat} (hN : 200000 ≤ N) {vob vn : US} {tx : Nat → Int32} {i0 i1 : Option US} {vm : US} {w : Nat → Int32} (hI : Inv vob vn tx i0 i1 vm w)  (k0 : Int64) (k1 : Int32) : ∃ rx rm, f_X11_type N vob tx k0 k1 = some rx ∧ f_X12_type N vm k0 k1 = some rm ∧ rx.1 = rm.1 ∧ Inv rx.2.1 vn rx.2.2 i0 i1 rm.2 w := by
  obtain ⟨tn, tl, t1, t2, -⟩ := hI.2.2.2.1
  unfold f_X11_type f_X12_type
  rw [show f_X12_in k1.toInt64 1 8 = f_X11_within k1 1 8 from in_w k1 1 8]
  rcases wi k1 1 8 (by decide) (by decide) with ⟨h, j, hj1, hj, rfl⟩ | h
  · have h : f_X11_within (nI j) 1 8 = some true := h
    simp only [h, bs, ift]
    rw [t1, t2, nI_add]
    by_cases c : tn + j ≤ 200
    · rw [if_pos (show nI (tn + j) ≤ 200 from nI_le (b := 200) c (by decide)), if_pos (show nI (tn + j) ≤ 200 from nI_le (b := 200) c (by decide))]
      have g1 : ∀ j, j < 8 → 8 * (nI (j + 1) - 1) = nI (8 * j) ∧ nI (j + 1) - 1 = nI j := by decide +kernel
      obtain ⟨j, rfl⟩ : ∃ i, j = i + 1 := ⟨j - 1, by omega⟩
      exact type_loop (j + 1) hj N (by omega) vob tx vm hI ⟨tn, t1, c⟩ _ _ (Or.inr ⟨j, rfl, (g1 j (by omega)).1, (g1 j (by omega)).2⟩)
    · rw [if_neg (show ¬ nI (tn + j) ≤ 200 from nI_nle2 (b := 200) (by omega) (by omega)), if_neg (show ¬ nI (tn + j) ≤ 200 from nI_nle2 (b := 200) (by omega) (by omega))]
      refine ⟨_, _, rfl, rfl, ?_, ?_⟩
      · rfl
      · exact hI.full
  · have h : f_X11_within k1 1 8 = some false := h
    simp only [h, bs, iff0]
    refine ⟨_, _, rfl, rfl, ?_, ?_⟩
    · rfl
    · exact hI.bad
