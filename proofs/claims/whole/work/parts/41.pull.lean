/-! one pull, the reference's way -/
def MPl (vm : US) (k : Nat) (sl : Nat → Nat) (wh p n q m : Nat) : Prop := vm.1 7 = nI wh ∧ wh < 32 ∧ (∀ t, t < k → vm.2.2 6 t = nI (sl t) ∧ sl t ≤ 9) ∧ (vm.1 8 = nI p ∧ p < k ∧ vm.1 9 = nI n ∧ n ≤ 20) ∧ Sec k q (vm.1 10) ∧ vm.1 11 = nI m ∧ m ≤ 20
theorem to_m {vm : US} {k : Nat} (hk : k ≤ 5) {sl : Nat → Nat} {wh : Nat} (e7 : vm.1 7 = nI wh) (hw : wh < 32) (hs : ∀ t, t < k → vm.2.2 6 t = nI (sl t) ∧ sl t ≤ 9) {q m : Nat} {qi : Int32} (hq : Sec k q qi) (hm : m ≤ 20) : f_X12_travelOf vm qi (nI m) = some (nI (tvl sl wh q m)) := by
  unfold f_X12_travelOf
  rcases hq with ⟨h, rfl⟩ | ⟨rfl, rfl⟩
  · rw [if_neg (neg1 (by omega)), e7, (fin_bit q (by omega) wh hw).1]
    unfold tvl
    have h9 := (hs q h).2
    rcases half2 wh q with e | e <;> rw [e]
    · rfl
    · rw [if_neg (show ¬ nI 1 = 0 by decide), ck_in (by omega) (by decide), ck_in (by omega) (by decide), nI_clamp (by omega), (hs q h).1, if_neg (show ¬ 1 = 0 by decide)]
      by_cases c : sl q ≤ m
      · rw [if_pos (nI_le c (by omega)), pk_sub c]
      · rw [if_neg (nI_nle2 (by omega) (by omega)), show m - sl q = 0 by omega]; rfl
  · rw [if_pos rfl, tvl_5 _ hw]; rfl
theorem tr_m {vm : US} {k : Nat} (hk : k ≤ 5) {sl : Nat → Nat} {wh p n q m : Nat} (h : MPl vm k sl wh p n q m) : f_X12_travel vm = some (nI (tvl sl wh p n + tvl sl wh q m)) := by
  obtain ⟨e7, hw, hs, ⟨e8, hp, e9, hn⟩, hq, e11, hm⟩ := h
  unfold f_X12_travel
  rw [e8, e9, e11, to_m hk e7 hw hs (Or.inl ⟨hp, rfl⟩) hn, bs, to_m hk e7 hw hs hq hm, bs, nI_add]
theorem mo_m {vm : US} {k : Nat} (hk : k ≤ 5) {sl : Nat → Nat} {wh p n q m t : Nat} (h : MPl vm k sl wh p n q m) (ht : t < k) : f_X12_moveOf vm (nI t) = some (nI (mvl sl wh p n q m t)) := by
  have l1 := tvl_le sl wh p n
  have l2 := tvl_le sl wh q m
  have htr := tr_m hk h
  obtain ⟨e7, hw, hs, ⟨e8, hp, e9, hn⟩, hq, e11, hm⟩ := h
  unfold f_X12_moveOf mvl
  rw [e8, e9, e11]
  have h9 := (hs t ht).2
  by_cases c1 : t = p
  · rw [if_pos (by rw [c1]), if_pos c1]
  · rw [if_neg (fun e => c1 ((nI_eq (by omega) (by omega)).mp e)), if_neg c1]
    by_cases c2 : t = q
    · rw [if_pos ((sec_ne hk hq (by omega)).mpr c2), if_pos c2]
    · rw [if_neg (fun e => c2 ((sec_ne hk hq (by omega)).mp e)), if_neg c2, htr, bs, ck_in (by omega) (by decide), nI_clamp (by omega), (hs t ht).1, e7, (fin_bit t (by omega) wh hw).1]
      have hT : tvl sl wh p n + tvl sl wh q m ≤ 40 := by omega
      generalize tvl sl wh p n + tvl sl wh q m = T at *
      by_cases c : sl t ≤ T
      · rw [pk_sub c, if_neg (show ¬ nI (T - sl t) < (0 : Int32) from nI_nlt (b := 0) (Nat.zero_le _) (by omega))]
        rcases half2 wh t with e | e <;> rw [e] <;> rfl
      · rw [if_pos (pk_sneg (by omega) (by omega)), show T - sl t = 0 by omega]
        rcases half2 wh t with e | e <;> rw [e] <;> rfl
theorem aft_lt {a : AV} (sl : Nat → Nat) (wh p n q m o : Nat) : aft a sl wh p n q m o < 2 ^ a.1 0 := bsum_lt _ _
/-- one thing of the reference's loop -/
theorem bh_s {N : Nat} {g : US → (Nat → Int32) → Int32 → Int32 → Int32 → Option Int32} {vm : US} {w : Nat → Int32} {a : AV} (hv : Valid a) (hm : RM w a) {y1 y2 : Int32} {t mv : Nat} (ht : t < a.1 0) (hmv : f_X12_moveOf vm (nI t) = some (nI mv)) (hl : mv ≤ 40) (z : Bool) : b_X12_behind_26 N g vm w y1 y2 (nI t) (b2i z) = g vm w y1 (y2 ||| (if kBec (nI (a.2 1 t)) z (nI mv) (nI (a.2 3 t)) then (1 : Int32) <<< (nI t &&& 31) else 0)) (nI t + 1) := by
  have h5 := hv.1
  have hk := hv.2.2.2.2.2.2.2.1 t ht
  have r := hm.2.2.2.2.2.2.1 t ht
  have o2 : f_X12_of vm w (nI t) 2 = some (nI (a.2 3 t)) := by
    rw [show (2 : Int32) = nI 2 from rfl, of_m (by omega) (by decide), show 1 + 5 * t + 2 = 3 + 5 * t by omega, r.2.2.1]
  have o0 : f_X12_of vm w (nI t) 0 = some (nI (a.2 1 t)) := by
    rw [show (0 : Int32) = nI 0 from rfl, of_m (by omega) (by decide), show 1 + 5 * t + 0 = 1 + 5 * t by omega, r.1]
  unfold b_X12_behind_26
  rw [hmv, bs, o2, bs]
  have hd : decide (nI (a.2 3 t) ≤ nI mv) = !decide (nI mv < nI (a.2 3 t)) := by
    by_cases c : nI mv < nI (a.2 3 t)
    · rw [decide_eq_true c, decide_eq_false]
      · rfl
      · rw [nI_leI (by omega) (by omega)]
        rw [nI_ltI (by omega) (by omega)] at c
        omega
    · rw [decide_eq_false c, decide_eq_true]
      · rfl
      · rw [nI_leI (by omega) (by omega)]
        rw [nI_ltI (by omega) (by omega)] at c
        omega
  have hd3 : decide (nI mv < nI (a.2 3 t) + 3) = !decide (nI (a.2 3 t) + 3 ≤ nI mv) := by
    rw [show (3 : Int32) = nI 3 from rfl, nI_add]
    by_cases c : nI mv < nI (a.2 3 t + 3)
    · rw [decide_eq_true c, decide_eq_false]
      · rfl
      · rw [nI_leI (by omega) (by omega)]
        rw [nI_ltI (by omega) (by omega)] at c
        omega
    · rw [decide_eq_false c, decide_eq_true]
      · rfl
      · rw [nI_leI (by omega) (by omega)]
        rw [nI_ltI (by omega) (by omega)] at c
        omega
  unfold kBec
  rw [hd, hd3]
  have hc : a.2 1 t = 0 ∨ a.2 1 t = 1 ∨ a.2 1 t = 2 ∨ a.2 1 t = 3 ∨ a.2 1 t = 4 := by omega
  unfold b_X12_behind_51 b_X12_behind_102 b_X12_behind_107 b_X12_behind_126 b_X12_behind_127 b_X12_behind_144 b_X12_behind_159 b_X12_behind_176 b_X12_behind_177 b_X12_behind_182
  rw [o0, o2]
  simp only [bs]
  generalize hM : nI mv = MV
  generalize hS : nI (a.2 3 t) = S
  by_cases c1 : MV < S <;> by_cases c2 : S + 3 ≤ MV <;> rcases hc with e | e | e | e | e <;> rw [e] <;> cases z <;> simp [c1, c2, b2i, nI]
theorem bh_l {N : Nat} {vm : US} {w : Nat → Int32} {a : AV} (hv : Valid a) (hm : RM w a) {sl : Nat → Nat} {wh p n q m o : Nat} (h : MPl vm (a.1 0) sl wh p n q m) (ho : o < 32) : ∀ d i k, i + d = a.1 0 → d < k → f_X12_behind_4 N k vm w (nI o) (nI (bsum (fun t => becN a sl wh p n q m t (decide (o / 2 ^ t % 2 = 1))) i)) (nI i) = some (nI (aft a sl wh p n q m o)) := by
  have h5 := hv.1
  intro d
  induction d with
  | zero =>
    intro i k hi hk
    obtain ⟨k, rfl⟩ : ∃ j, k = j + 1 := ⟨k - 1, by omega⟩
    have : i = a.1 0 := by omega
    subst this
    show b_X12_behind_4 N _ _ _ _ _ _ = _
    unfold b_X12_behind_4
    rw [m_things, bs, hm.1, if_pos (nI_le (Nat.le_refl _) (by omega))]
    rfl
  | succ d ih =>
    intro i k hi hk
    obtain ⟨k, rfl⟩ : ∃ j, k = j + 1 := ⟨k - 1, by omega⟩
    have hi5 : i < 5 := by omega
    have hia : i < a.1 0 := by omega
    have hmv := mo_m h5 h hia
    have IH := ih (i + 1) k (by omega) (by omega)
    show b_X12_behind_4 N _ _ _ _ _ _ = _
    unfold b_X12_behind_4
    rw [m_things, bs, hm.1, if_neg (nI_nle2 (a := a.1 0) hia (by omega)), (fin_bit i hi5 o ho).1]
    have hz : (if nI (o / 2 ^ i % 2) = 1 then b_X12_behind_26 N (f_X12_behind_4 N k) vm w (nI o) (nI (bsum (fun t => becN a sl wh p n q m t (decide (o / 2 ^ t % 2 = 1))) i)) (nI i) 1 else b_X12_behind_26 N (f_X12_behind_4 N k) vm w (nI o) (nI (bsum (fun t => becN a sl wh p n q m t (decide (o / 2 ^ t % 2 = 1))) i)) (nI i) 0) = b_X12_behind_26 N (f_X12_behind_4 N k) vm w (nI o) (nI (bsum (fun t => becN a sl wh p n q m t (decide (o / 2 ^ t % 2 = 1))) i)) (nI i) (b2i (decide (o / 2 ^ i % 2 = 1))) := by
      rcases half2 o i with e | e <;> rw [e] <;> rfl
    rw [hz, bh_s hv hm hia hmv (mvl_le sl h.2.2.2.1.2.2.2 h.2.2.2.2.2.2), nI_1]
    show f_X12_behind_4 N k vm w (nI o) (_ ||| if becN a sl wh p n q m i (decide (o / 2 ^ i % 2 = 1)) then _ else _) _ = _
    have e6 : bsum (fun t => becN a sl wh p n q m t (decide (o / 2 ^ t % 2 = 1))) (i + 1) = bsum (fun t => becN a sl wh p n q m t (decide (o / 2 ^ t % 2 = 1))) i + if becN a sl wh p n q m i (decide (o / 2 ^ i % 2 = 1)) then 2 ^ i else 0 := rfl
    rw [e6] at IH
    have l := bsum_lt (fun t => becN a sl wh p n q m t (decide (o / 2 ^ t % 2 = 1))) i
    have g := or_bit i hi5 _ (lt32 (by omega) l) l
    cases hb : becN a sl wh p n q m i (decide (o / 2 ^ i % 2 = 1))
    · rw [hb] at IH
      rw [if_neg (by decide), Int32.or_zero]
      exact IH
    · rw [hb] at IH
      rw [if_pos rfl, g]
      exact IH
theorem bh_m {N : Nat} (hN : 200000 ≤ N) {vm : US} {w : Nat → Int32} {a : AV} (hv : Valid a) (hm : RM w a) {sl : Nat → Nat} {wh p n q m o : Nat} (h : MPl vm (a.1 0) sl wh p n q m) (ho : o < 32) : f_X12_behind N vm w (nI o) = some (nI (aft a sl wh p n q m o)) :=
  bh_l hv hm h ho (a.1 0) 0 N (by omega) (by have := hv.1; omega)
theorem ts_l {N : Nat} {w : Nat → Int32} {a : AV} (hv : Valid a) (hm : RM w a) : ∀ d i k vm, i + d = a.1 0 → d < k → (∀ t, t < i → vm.2.2 6 t = nI (sdv a t)) → ∃ vm', f_X12_takeSlacks_2 N k vm w (nI (a.1 6)) (nI i) = some vm' ∧ vm'.1 = vm.1 ∧ vm'.2.1 = vm.2.1 ∧ (∀ s, s ≠ 6 → vm'.2.2 s = vm.2.2 s) ∧ (∀ t, t < a.1 0 → vm'.2.2 6 t = nI (sdv a t)) := by
  have h5 := hv.1
  have h6 := hv.2.2.1
  intro d
  induction d with
  | zero =>
    intro i k vm hi hk hs
    obtain ⟨k, rfl⟩ : ∃ j, k = j + 1 := ⟨k - 1, by omega⟩
    have : i = a.1 0 := by omega
    subst this
    refine ⟨vm, ?_, rfl, rfl, fun _ _ => rfl, hs⟩
    show b_X12_takeSlacks_2 N _ _ _ _ _ = _
    unfold b_X12_takeSlacks_2
    rw [m_things, bs, hm.1, if_pos (nI_le (Nat.le_refl _) (by omega))]
  | succ d ih =>
    intro i k vm hi hk hs
    obtain ⟨k, rfl⟩ : ∃ j, k = j + 1 := ⟨k - 1, by omega⟩
    have hia : i < a.1 0 := by omega
    have h9 := (hv.2.2.2.2.2.2.2.1 i hia).2.1
    have e : f_X12_takeSlacks_2 N (k + 1) vm w (nI (a.1 6)) (nI i) = f_X12_takeSlacks_2 N k (upa vm 6 i (nI (sdv a i))) w (nI (a.1 6)) (nI (i + 1)) := by
      show b_X12_takeSlacks_2 N _ _ _ _ _ = _
      unfold b_X12_takeSlacks_2
      rw [m_things, bs, hm.1, if_neg (nI_nle2 (a := a.1 0) hia (by omega)), show (1 : Int32) = nI 1 from rfl, of_m (by omega) (by decide), bs, show 1 + 5 * i + 1 = 2 + 5 * i by omega, (hm.2.2.2.2.2.2.1 i hia).2.1, ck_in (by omega) (by decide), ck_in (by omega) (by decide), nI_clamp (by omega), nI_add]
      unfold sdv
      by_cases c : a.1 6 ≤ a.2 2 i
      · rw [pk_sub c, if_pos (show (0 : Int32) ≤ nI (a.2 2 i - a.1 6) from nI_le (a := 0) (Nat.zero_le _) (by omega))]
      · rw [if_neg, show a.2 2 i - a.1 6 = 0 by omega]
        · rfl
        · rw [Int32.le_iff_toInt_le, pk_sub_toInt (by omega) (by omega), show (0 : Int32).toInt = 0 from by decide]
          omega
    rw [e]
    obtain ⟨vm', e1, e2, e3, e4, e5⟩ := ih (i + 1) k (upa vm 6 i (nI (sdv a i))) (by omega) (by omega) (fun t ht => by
      show upd (vm.2.2 6) _ _ _ = _
      unfold upd
      by_cases c : t = i
      · rw [if_pos c, c]
      · rw [if_neg c]; exact hs t (by omega))
    exact ⟨vm', e1, e2, e3, fun s hs => (e4 s hs).trans (if_neg hs), e5⟩
/-- the reference takes what is now: what comes of it -/
def Taken (vm : US) (a : AV) (wh : Nat) : Prop := vm.1 7 = nI wh ∧ (∀ t, t < a.1 0 → vm.2.2 6 t = nI (sdv a t))
theorem tk_m {N : Nat} (hN : 200000 ≤ N) {vm : US} {w : Nat → Int32} {a : AV} (hv : Valid a) (hm : RM w a) : ∃ vm', f_X12_takeNow N vm w = some vm' ∧ Taken vm' a (a.1 5) ∧ ScrM vm vm' := by
  have h5 := hv.1
  unfold f_X12_takeNow f_X12_takeSlacks
  rw [if_neg (by decide), show (26 : Int32).toNatClampNeg = 26 from by decide, hm.2.1]
  obtain ⟨vm', e1, e2, e3, e4, e5⟩ := ts_l (N := N) hv hm (a.1 0) 0 N vm (by omega) (by omega) (fun t ht => absurd ht (Nat.not_lt_zero t))
  have e1 : f_X12_takeSlacks_2 N N vm w (nI (a.1 6)) 0 = some vm' := e1
  rw [e1, bs, whole_m hN hv.1 hv.2.1 hm.1 (fun i hi => (hm.2.2.2.2.2.2.1 i hi).2.2.2.2), bs]
  refine ⟨_, rfl, ⟨rfl, e5⟩, e3, ?_, e4 1 (by decide), e4 2 (by decide), e4 3 (by decide), e4 16 (by decide)⟩
  show vm'.1 17 = vm.1 17
  rw [e2]
theorem op_m {vm : US} {a : AV} (hv : Valid a) {wh p n : Nat} (hw : wh < 32) (ht : Taken vm a wh) (hp : p < a.1 0) (hn : n ≤ 20) : ∃ vm', f_X12_onePull vm (nI p) (nI n) = some vm' ∧ MPl vm' (a.1 0) (sdv a) wh p n 5 0 ∧ Taken vm' a wh ∧ ScrM vm vm' :=
  ⟨_, rfl, ⟨ht.1, hw, fun t h => ⟨ht.2 t h, sdv_le hv h⟩, ⟨rfl, hp, rfl, hn⟩, Or.inr ⟨rfl, rfl⟩, rfl, by decide⟩, ht, rfl, rfl, rfl, rfl, rfl, rfl⟩
