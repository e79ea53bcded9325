/-! images -/
theorem cpy_in {f g : Nat → Int32} {n i : Nat} (h : i < n) : va_cpy f g 0 0 n i = f i := by
  unfold va_cpy
  rw [if_pos ⟨Nat.zero_le _, by omega⟩]
  congr 1
  omega
theorem bl_x {v vp : US} {a : AV} (hv : Valid a) (hx : RX vp a) : ∃ res, f_X9_becomeLike v vp = some res ∧ RX res a := by
  obtain ⟨v0, v1, v2, v3, v4, v5, v6, v7, v8, v9, v10⟩ := hv
  obtain ⟨x0, x1, x2, x3, x4, x5, x6, x7, x8, x9, x10⟩ := hx
  refine ⟨_, rfl, x0, x1, x2, x3, x4, x5, x6, fun i hi => ?_, fun i hi => ?_, fun i hi => ?_, fun i hi => ?_⟩
  · have h5 : i < 5 := by omega
    exact ⟨(cpy_in h5).trans (x7 i hi).1, (cpy_in h5).trans (x7 i hi).2.1, (cpy_in h5).trans (x7 i hi).2.2.1, (cpy_in h5).trans (x7 i hi).2.2.2⟩
  · have h5 : i < 5 := by omega
    exact ⟨(cpy_in h5).trans (x8 i hi).1, (cpy_in h5).trans (x8 i hi).2⟩
  · have h5 : i < 4 := by omega
    exact ⟨(cpy_in h5).trans (x9 i hi).1, (cpy_in h5).trans (x9 i hi).2.1, (cpy_in h5).trans (x9 i hi).2.2⟩
  · have h5 : i < 10 := by omega
    exact (cpy_in h5).trans (x10 i hi)
theorem RM.cg {w w' : Nat → Int32} {a : AV} (hv : Valid a) (h : RM w a) (e : ∀ k, k < 63 → w' k = w k) : RM w' a := by
  obtain ⟨v0, v1, v2, v3, v4, v5, v6, -, -, -, -⟩ := hv
  obtain ⟨m0, m1, m2, m3, m4, m5, m6, m7, m8, m9⟩ := h
  refine ⟨(e _ (by omega)).trans m0, (e _ (by omega)).trans m1, (e _ (by omega)).trans m2, (e _ (by omega)).trans m3, (e _ (by omega)).trans m4, (e _ (by omega)).trans m5, fun i hi => ?_, fun i hi => ?_, fun i hi => ?_, fun i hi => ?_⟩
  · exact ⟨(e _ (by omega)).trans (m6 i hi).1, (e _ (by omega)).trans (m6 i hi).2.1, (e _ (by omega)).trans (m6 i hi).2.2.1, (e _ (by omega)).trans (m6 i hi).2.2.2.1, (e _ (by omega)).trans (m6 i hi).2.2.2.2⟩
  · exact ⟨(e _ (by omega)).trans (m7 i hi).1, (e _ (by omega)).trans (m7 i hi).2⟩
  · exact ⟨(e _ (by omega)).trans (m8 i hi).1, (e _ (by omega)).trans (m8 i hi).2.1, (e _ (by omega)).trans (m8 i hi).2.2⟩
  · exact (e _ (by omega)).trans (m9 i hi)
theorem Both.cg {v : US} {w w' : Nat → Int32} (h : Both v w) (e : ∀ k, k < 63 → w' k = w k) : Both v w' := by
  obtain ⟨a, hv, hx, hm⟩ := h
  exact ⟨a, hv, hx, hm.cg hv e⟩
theorem at63 {i j : Nat} : (63 : Int32) * nI i + nI j = nI (63 * i + j) := by
  rw [show (63 : Int32) = nI 63 from rfl, pk_mul, nI_add]
theorem image_l {N i : Nat} {w : Nat → Int32} (hi : i < 2) : ∀ d j k v, j + d = 63 → d < k → (∀ q, q < j → v.2.2 1 (63 * i + q) = w q) → ∃ v', f_X12_image_19 N k v w (nI i) (nI j) = some (1, upa v' 2 i 1) ∧ v'.1 = v.1 ∧ v'.2.1 = v.2.1 ∧ (∀ s, s ≠ 1 → v'.2.2 s = v.2.2 s) ∧ (∀ q, q < 63 → v'.2.2 1 (63 * i + q) = w q) ∧ (∀ m, (m < 63 * i ∨ 63 * i + 63 ≤ m) → v'.2.2 1 m = v.2.2 1 m) := by
  intro d
  induction d with
  | zero =>
    intro j k v hj hk hq
    obtain ⟨k, rfl⟩ : ∃ j, k = j + 1 := ⟨k - 1, by omega⟩
    have : j = 63 := by omega
    subst this
    refine ⟨v, ?_, rfl, rfl, fun _ _ => rfl, hq, fun _ _ => rfl⟩
    show b_X12_image_19 N _ _ _ _ _ = _
    unfold b_X12_image_19
    rw [if_pos (by decide), ck_in hi (by decide), nI_clamp (by omega)]
  | succ d ih =>
    intro j k v hj hk hq
    obtain ⟨k, rfl⟩ : ∃ j, k = j + 1 := ⟨k - 1, by omega⟩
    have e : f_X12_image_19 N (k + 1) v w (nI i) (nI j) = f_X12_image_19 N k (upa v 1 (63 * i + j) (w j)) w (nI i) (nI (j + 1)) := by
      show b_X12_image_19 N _ _ _ _ _ = _
      unfold b_X12_image_19
      rw [if_neg (show ¬ (63 : Int32) ≤ nI j from nI_nle2 (a := 63) (by omega) (by decide)), ck_in (by omega) (by decide), at63, ck_in (by omega) (by decide), nI_clamp (by omega), nI_clamp (by omega), nI_1]
    rw [e]
    obtain ⟨v', e1, e2, e3, e4, e5, e6⟩ := ih (j + 1) k (upa v 1 (63 * i + j) (w j)) (by omega) (by omega) (fun q hq' => by
      show upd (v.2.2 1) _ _ _ = _
      unfold upd
      by_cases c : q = j
      · rw [if_pos (by omega), c]
      · rw [if_neg (by omega)]; exact hq q (by omega))
    refine ⟨v', e1, e2, e3, fun s hs => (e4 s hs).trans (if_neg hs), e5, fun m hm => (e6 m hm).trans ?_⟩
    show upd (v.2.2 1) _ _ _ = _
    unfold upd
    rw [if_neg (by omega)]
theorem from_l {N i : Nat} {v : US} (hi : i < 2) : ∀ d j k w, j + d = 63 → d < k → (∀ q, q < j → w q = v.2.2 1 (63 * i + q)) → ∃ w', f_X12_from_35 N k v w (nI i) (nI j) = some (1, v, w') ∧ (∀ q, q < 63 → w' q = v.2.2 1 (63 * i + q)) := by
  intro d
  induction d with
  | zero =>
    intro j k w hj hk hq
    obtain ⟨k, rfl⟩ : ∃ j, k = j + 1 := ⟨k - 1, by omega⟩
    have : j = 63 := by omega
    subst this
    refine ⟨w, ?_, hq⟩
    show b_X12_from_35 N _ _ _ _ _ = _
    unfold b_X12_from_35
    rw [if_pos (by decide)]
  | succ d ih =>
    intro j k w hj hk hq
    obtain ⟨k, rfl⟩ : ∃ j, k = j + 1 := ⟨k - 1, by omega⟩
    have e : f_X12_from_35 N (k + 1) v w (nI i) (nI j) = f_X12_from_35 N k v (upd w j (v.2.2 1 (63 * i + j))) (nI i) (nI (j + 1)) := by
      show b_X12_from_35 N _ _ _ _ _ = _
      unfold b_X12_from_35
      rw [if_neg (show ¬ (63 : Int32) ≤ nI j from nI_nle2 (a := 63) (by omega) (by decide)), at63, ck_in (by omega) (by decide), ck_in (by omega) (by decide), nI_clamp (by omega), nI_clamp (by omega), nI_1]
    rw [e]
    exact ih (j + 1) k _ (by omega) (by omega) (fun q hq' => by
      unfold upd
      by_cases c : q = j
      · rw [if_pos c, c]
      · rw [if_neg c]; exact hq q (by omega))
theorem wi_bad {k : Int32} (h0 : ¬ k = 0) (h1 : ¬ k = 1) : f_X11_within k 0 1 = some false := by
  unfold f_X11_within
  by_cases a : k < 0
  · rw [if_pos a]
  · rw [if_neg a]
    obtain ⟨j, hj, rfl⟩ := nI_of a
    have e0 : ¬ j = 0 := fun e => h0 (by rw [e]; rfl)
    have e1 : ¬ j = 1 := fun e => h1 (by rw [e]; rfl)
    exact if_pos (show (1 : Int32) < nI j from nI_lt (a := 1) (b := j) (by omega) hj)
theorem sim_image_bad {N : Nat} (hN : 200000 ≤ N) {vob vn : US} {tx : Nat → Int32} {i0 i1 : Option US} {vm : US} {w : Nat → Int32} (hI : Inv vob vn tx i0 i1 vm w) {k : Int32} (h0 : ¬ k = 0) (h1 : ¬ k = 1) : ∃ rm, f_X12_image N vm w k = some rm ∧ (-2 : Int32) = rm.1 ∧ Inv (upi vob 6 (vob.1 6 + 1)) vn tx i0 i1 rm.2 w := by
  unfold f_X12_image
  rw [show f_X12_in k.toInt64 0 1 = f_X11_within k 0 1 from in_w k 0 1, wi_bad h0 h1]
  exact ⟨_, rfl, rfl, hI.bad⟩
theorem sim_from_bad {N : Nat} (hN : 200000 ≤ N) {vob vn : US} {tx : Nat → Int32} {i0 i1 : Option US} {vm : US} {w : Nat → Int32} (hI : Inv vob vn tx i0 i1 vm w) {k : Int32} (h0 : ¬ k = 0) (h1 : ¬ k = 1) : ∃ rm, f_X12_from N vm w k = some rm ∧ (-2 : Int32) = rm.1 ∧ Inv (upi vob 6 (vob.1 6 + 1)) vn tx i0 i1 rm.2.1 rm.2.2 := by
  unfold f_X12_from
  rw [show f_X12_in k.toInt64 0 1 = f_X11_within k 0 1 from in_w k 0 1, wi_bad h0 h1]
  exact ⟨_, rfl, rfl, hI.bad⟩
theorem image_m {N : Nat} (hN : 200000 ≤ N) {vm : US} {w : Nat → Int32} {i : Nat} (hi : i < 2) : ∃ v', f_X12_image N vm w (nI i) = some (1, upa v' 2 i 1) ∧ v'.1 = vm.1 ∧ v'.2.1 = vm.2.1 ∧ (∀ s, s ≠ 1 → v'.2.2 s = vm.2.2 s) ∧ (∀ q, q < 63 → v'.2.2 1 (63 * i + q) = w q) ∧ (∀ m, (m < 63 * i ∨ 63 * i + 63 ≤ m) → v'.2.2 1 m = vm.2.2 1 m) := by
  have h : f_X12_image N vm w (nI i) = f_X12_image_19 N N vm w (nI i) (nI 0) := by
    unfold f_X12_image
    rw [show f_X12_in (nI i).toInt64 0 1 = f_X11_within (nI i) 0 1 from in_w (nI i) 0 1]
    have : i = 0 ∨ i = 1 := by omega
    rcases this with rfl | rfl <;> rfl
  rw [h]
  exact image_l hi 63 0 N vm (by omega) (by omega) (fun q hq => absurd hq (Nat.not_lt_zero q))
theorem Inv.im {vob vn : US} {tx : Nat → Int32} {i0 i1 : Option US} {vm v' : US} {w : Nat → Int32} (hI : Inv vob vn tx i0 i1 vm w) {res : US} {a : AV} (hv : Valid a) (hr : RX res a) (hm : RM w a) {i : Nat} (e1 : v'.1 = vm.1) (e2 : v'.2.1 = vm.2.1) (e3 : ∀ s, s ≠ 1 → v'.2.2 s = vm.2.2 s) (e4 : ∀ q, q < 63 → v'.2.2 1 (63 * i + q) = w q) (e5 : ∀ m, (m < 63 * i ∨ 63 * i + 63 ≤ m) → v'.2.2 1 m = vm.2.2 1 m) : (i = 0 → Inv vob vn tx (some res) i1 (upa v' 2 i 1) w) ∧ (i = 1 → Inv vob vn tx i0 (some res) (upa v' 2 i 1) w) := by
  obtain ⟨h1, h2, h3, ⟨n, h4, h5, h6, h7⟩, ⟨h8, h9, h10⟩, h11, h12⟩ := hI
  have t : TxR vob tx (upa v' 2 i 1) := ⟨n, h4, h5, by show v'.1 17 = _; rw [e1]; exact h6, fun k hk => by show tx k = v'.2.2 16 k ∧ _; rw [e3 16 (by decide)]; exact h7 k hk⟩
  have r : vob.1 6 = (upa v' 2 i 1).2.2 3 0 ∧ vob.1 7 = (upa v' 2 i 1).2.2 3 1 ∧ vob.1 8 = (upa v' 2 i 1).2.2 3 2 := by
    show vob.1 6 = v'.2.2 3 0 ∧ vob.1 7 = v'.2.2 3 1 ∧ vob.1 8 = v'.2.2 3 2
    rw [e3 3 (by decide)]
    exact ⟨h8, h9, h10⟩
  have s : vob.2.1 4 = (upa v' 2 i 1).2.1 4 ∧ vob.2.1 5 = (upa v' 2 i 1).2.1 5 := by
    show vob.2.1 4 = v'.2.1 4 ∧ vob.2.1 5 = v'.2.1 5
    rw [e2]
    exact ⟨h11, h12⟩
  have me : ImR (some res) (upa v' 2 i 1) i := Or.inr ⟨res, rfl, by show upd (v'.2.2 2) i 1 i = 1; exact if_pos rfl, a, hv, hr, hm.cg hv (fun k hk => e4 k hk)⟩
  have ot : ∀ o j, j ≠ i → j < 2 → i < 2 → ImR o vm j → ImR o (upa v' 2 i 1) j := fun o j hj hj2 hi2 h => by
    have q2 : (upa v' 2 i 1).2.2 2 j = vm.2.2 2 j := by
      show upd (v'.2.2 2) i 1 j = _
      unfold upd
      rw [if_neg hj, e3 2 (by decide)]
    rcases h with ⟨g1, g2⟩ | ⟨v, g1, g2, g3⟩
    · exact Or.inl ⟨g1, q2.trans g2⟩
    · refine Or.inr ⟨v, g1, q2.trans g2, g3.cg fun k hk => ?_⟩
      show v'.2.2 1 (63 * j + k) = _
      exact e5 _ (by omega)
  refine ⟨fun hi => ?_, fun hi => ?_⟩
  · subst hi
    exact ⟨h1, me, ot i1 1 (by decide) (by decide) (by decide) h3, t, r, s.1, s.2⟩
  · subst hi
    exact ⟨h1, ot i0 0 (by decide) (by decide) (by decide) h2, me, t, r, s.1, s.2⟩
theorem sim_image_0 {N : Nat} (hN : 200000 ≤ N) {vob vn : US} {tx : Nat → Int32} {i0 i1 : Option US} {vm : US} {w : Nat → Int32} (hI : Inv vob vn tx i0 i1 vm w) (v : US) : ∃ res rm, f_X9_becomeLike v vn = some res ∧ f_X12_image N vm w 0 = some rm ∧ (1 : Int32) = rm.1 ∧ Inv vob vn tx (some res) i1 rm.2 w := by
  obtain ⟨a, hv, hx, hm⟩ := hI.1
  obtain ⟨res, r1, r2⟩ := bl_x (v := v) hv hx
  obtain ⟨v', e0, e1, e2, e3, e4, e5⟩ := image_m hN (vm := vm) (w := w) (i := 0) (by decide)
  exact ⟨res, _, r1, e0, rfl, (hI.im hv r2 hm e1 e2 e3 e4 e5).1 rfl⟩
theorem sim_image_1 {N : Nat} (hN : 200000 ≤ N) {vob vn : US} {tx : Nat → Int32} {i0 i1 : Option US} {vm : US} {w : Nat → Int32} (hI : Inv vob vn tx i0 i1 vm w) (v : US) : ∃ res rm, f_X9_becomeLike v vn = some res ∧ f_X12_image N vm w 1 = some rm ∧ (1 : Int32) = rm.1 ∧ Inv vob vn tx i0 (some res) rm.2 w := by
  obtain ⟨a, hv, hx, hm⟩ := hI.1
  obtain ⟨res, r1, r2⟩ := bl_x (v := v) hv hx
  obtain ⟨v', e0, e1, e2, e3, e4, e5⟩ := image_m hN (vm := vm) (w := w) (i := 1) (by decide)
  exact ⟨res, _, r1, e0, rfl, (hI.im hv r2 hm e1 e2 e3 e4 e5).2 rfl⟩
theorem from_m0 {N : Nat} {vm : US} {w : Nat → Int32} {i : Nat} (hi : i < 2) (h : vm.2.2 2 i = 0) : f_X12_from N vm w (nI i) = some (-3, upa vm 3 1 (vm.2.2 3 1 + 1), w) := by
  unfold f_X12_from
  rw [show f_X12_in (nI i).toInt64 0 1 = f_X11_within (nI i) 0 1 from in_w (nI i) 0 1]
  have : f_X11_within (nI i) 0 1 = some true := by
    have : i = 0 ∨ i = 1 := by omega
    rcases this with rfl | rfl <;> rfl
  rw [this, bs, ift, ck_in hi (by decide), nI_clamp (by omega), if_pos h]
  rfl
theorem from_m1 {N : Nat} (hN : 200000 ≤ N) {vm : US} {w : Nat → Int32} {i : Nat} (hi : i < 2) (h : vm.2.2 2 i = 1) : ∃ w', f_X12_from N vm w (nI i) = some (1, vm, w') ∧ (∀ q, q < 63 → w' q = vm.2.2 1 (63 * i + q)) := by
  have e : f_X12_from N vm w (nI i) = f_X12_from_35 N N vm w (nI i) (nI 0) := by
    unfold f_X12_from
    rw [show f_X12_in (nI i).toInt64 0 1 = f_X11_within (nI i) 0 1 from in_w (nI i) 0 1]
    have : f_X11_within (nI i) 0 1 = some true := by
      have : i = 0 ∨ i = 1 := by omega
      rcases this with rfl | rfl <;> rfl
    rw [this, bs, ift, ck_in hi (by decide), nI_clamp (by omega), if_neg (by rw [h]; decide)]
    rfl
  rw [e]
  exact from_l hi 63 0 N w (by omega) (by omega) (fun q hq => absurd hq (Nat.not_lt_zero q))
theorem ImR.z {o : Option US} {vm : US} {i : Nat} (h : ImR o vm i) (hn : o = none) : vm.2.2 2 i = 0 := by
  rcases h with ⟨_, h⟩ | ⟨v, h, _⟩
  · exact h
  · rw [hn] at h; cases h
theorem ImR.s {o : Option US} {vm v : US} {i : Nat} (h : ImR o vm i) (hn : o = some v) : vm.2.2 2 i = 1 ∧ Both v (fun k => vm.2.2 1 (63 * i + k)) := by
  rcases h with ⟨h, _⟩ | ⟨v', h, h1, h2⟩
  · rw [hn] at h; cases h
  · rw [hn] at h; cases h; exact ⟨h1, h2⟩
theorem sim_from_0_none {N : Nat} (hN : 200000 ≤ N) {vob vn : US} {tx : Nat → Int32} {i0 i1 : Option US} {vm : US} {w : Nat → Int32} (hI : Inv vob vn tx i0 i1 vm w) (hn : i0 = none) : ∃ rm, f_X12_from N vm w 0 = some rm ∧ (-3 : Int32) = rm.1 ∧ Inv (upi vob 7 (vob.1 7 + 1)) vn tx i0 i1 rm.2.1 rm.2.2 :=
  ⟨_, from_m0 (i := 0) (by decide) (hI.2.1.z hn), rfl, hI.no⟩
theorem sim_from_1_none {N : Nat} (hN : 200000 ≤ N) {vob vn : US} {tx : Nat → Int32} {i0 i1 : Option US} {vm : US} {w : Nat → Int32} (hI : Inv vob vn tx i0 i1 vm w) (hn : i1 = none) : ∃ rm, f_X12_from N vm w 1 = some rm ∧ (-3 : Int32) = rm.1 ∧ Inv (upi vob 7 (vob.1 7 + 1)) vn tx i0 i1 rm.2.1 rm.2.2 :=
  ⟨_, from_m0 (i := 1) (by decide) (hI.2.2.1.z hn), rfl, hI.no⟩
theorem sim_from_0_some {N : Nat} (hN : 200000 ≤ N) {vob vn : US} {tx : Nat → Int32} {i0 i1 : Option US} {vm : US} {w : Nat → Int32} (hI : Inv vob vn tx i0 i1 vm w) {v : US} (hn : i0 = some v) : ∃ res rm, f_X9_becomeLike vn v = some res ∧ f_X12_from N vm w 0 = some rm ∧ (1 : Int32) = rm.1 ∧ Inv vob res tx i0 i1 rm.2.1 rm.2.2 := by
  obtain ⟨h1, a, hv, hx, hm⟩ := hI.2.1.s hn
  obtain ⟨res, r1, r2⟩ := bl_x (v := vn) hv hx
  obtain ⟨w', e0, e1⟩ := from_m1 hN (vm := vm) (w := w) (i := 0) (by decide) h1
  exact ⟨res, _, r1, e0, rfl, hI.now ⟨a, hv, r2, hm.cg hv e1⟩⟩
theorem sim_from_1_some {N : Nat} (hN : 200000 ≤ N) {vob vn : US} {tx : Nat → Int32} {i0 i1 : Option US} {vm : US} {w : Nat → Int32} (hI : Inv vob vn tx i0 i1 vm w) {v : US} (hn : i1 = some v) : ∃ res rm, f_X9_becomeLike vn v = some res ∧ f_X12_from N vm w 1 = some rm ∧ (1 : Int32) = rm.1 ∧ Inv vob res tx i0 i1 rm.2.1 rm.2.2 := by
  obtain ⟨h1, a, hv, hx, hm⟩ := hI.2.2.1.s hn
  obtain ⟨res, r1, r2⟩ := bl_x (v := vn) hv hx
  obtain ⟨w', e0, e1⟩ := from_m1 hN (vm := vm) (w := w) (i := 1) (by decide) h1
  exact ⟨res, _, r1, e0, rfl, hI.now ⟨a, hv, r2, hm.cg hv e1⟩⟩
