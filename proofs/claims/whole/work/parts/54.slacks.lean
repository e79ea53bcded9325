/-! slacks: masks -/
theorem bw_and {x y : Nat} (hx : x < 2 ^ 31) (hy : y < 2 ^ 31) : nI x &&& nI y = nI (x &&& y) := by
  apply Int32.toBitVec_inj.mp
  apply BitVec.eq_of_toNat_eq
  have h : x &&& y ≤ x := Nat.and_le_left
  rw [Int32.toBitVec_and, BitVec.toNat_and, pk_tn (by omega), pk_tn (by omega), pk_tn (by omega)]
theorem bw_or {x y : Nat} (hx : x < 2 ^ 31) (hy : y < 2 ^ 31) : nI x ||| nI y = nI (x ||| y) := by
  apply Int32.toBitVec_inj.mp
  apply BitVec.eq_of_toNat_eq
  have h : x ||| y < 2 ^ 31 := Nat.or_lt_two_pow hx hy
  rw [Int32.toBitVec_or, BitVec.toNat_or, pk_tn (by omega), pk_tn (by omega), pk_tn (by omega)]
theorem bw_s31 : ∀ s, s < 32 → ((nI s &&& 31).toBitVec.smod 32).toNat = s := by decide +kernel
theorem bw_shr {x s : Nat} (hx : x < 2 ^ 31) (hs : s < 32) : nI x >>> (nI s &&& 31) = nI (x / 2 ^ s) := pk_shrN hx _ s (bw_s31 s hs)
theorem bw_bit : ∀ s, s < 31 → (1 : Int32) <<< (nI s &&& 31) = nI (2 ^ s) := by decide +kernel
theorem bw_has {x s : Nat} (hx : x < 2 ^ 31) (hs : s < 32) : f_X11_has (nI x) (nI s) = some (x.testBit s) := by
  unfold f_X11_has
  have h : x / 2 ^ s ≤ x := Nat.div_le_self _ _
  rw [bw_shr hx hs, pk_andN (by omega) (m := 1) 1 (by decide), ← bit_tb]
  rcases half2 x s with q | q
  · rw [show (2 : Nat) ^ 1 = 2 from rfl, q]; rfl
  · rw [show (2 : Nat) ^ 1 = 2 from rfl, q]; rfl
theorem bw_clr : ∀ s, s < 10 → ∀ M, M < 1024 → nI M &&& (((1 : Int32) <<< (nI s &&& 31)) ^^^ (-1)) = nI (M &&& (1023 ^^^ 2 ^ s)) := by decide +kernel
theorem bw_clt : ∀ s, s < 10 → ∀ x, x < 10 → x ≠ s → (1023 ^^^ 2 ^ s).testBit x = true := by decide +kernel
theorem bw_orb {x s : Nat} (hs : s < 30) (hx : x < 2 ^ s) : nI x ||| ((1 : Int32) <<< (nI s &&& 31)) = nI (x + 2 ^ s) := by
  have h1 : 2 ^ s < 2 ^ 30 := Nat.pow_lt_pow_right (by decide) hs
  rw [bw_bit s (by omega), bw_or (by omega) (by omega)]
  have := Nat.two_pow_add_eq_or_of_lt hx 1
  rw [Nat.mul_one] at this
  rw [Nat.or_comm, ← this, Nat.add_comm]
theorem bs_lt (f : Nat → Bool) : bsum f 19 < 2 ^ 31 := Nat.lt_of_lt_of_le (bsum_lt f 19) (by decide)
theorem bs_and (f g : Nat → Bool) : nI (bsum f 19) &&& nI (bsum g 19) = nI (bsum (fun x => f x && g x) 19) := by
  rw [bw_and (bs_lt f) (bs_lt g)]
  congr 1
  apply Nat.eq_of_testBit_eq
  intro i
  rw [Nat.testBit_and, bsum_tb, bsum_tb, bsum_tb]
  cases decide (i < 19) <;> cases f i <;> cases g i <;> rfl
def bAll (f : Nat → Bool) : Nat → Bool
  | 0 => true
  | n + 1 => bAll f n && f n
theorem bAll_iff (f : Nat → Bool) : ∀ n, bAll f n = true ↔ ∀ i, i < n → f i = true := by
  intro n
  induction n with
  | zero => exact ⟨fun _ i hi => absurd hi (Nat.not_lt_zero i), fun _ => rfl⟩
  | succ n ih =>
    show (bAll f n && f n) = true ↔ _
    rw [Bool.and_eq_true, ih]
    constructor
    · intro h i hi
      by_cases c : i = n
      · rw [c]; exact h.2
      · exact h.1 i (by omega)
    · intro h
      exact ⟨fun i hi => h i (by omega), h n (by omega)⟩
/-! what a rule asks -/
def sl_so (a : AV) (r t x : Nat) : Bool := kBec (nI (a.2 1 t)) false (nI (a.2 13 r - x)) (nI (a.2 3 t)) == decide (a.2 14 r / 2 ^ t % 2 = 1)
def sl_gd (a : AV) (W : Nat) (sl : Nat → Nat) : Bool := bAll (fun r => decide (W / 2 ^ r % 2 = 1) || bAll (fun t => sl_so a r t (if t = a.2 12 r then 0 else sl (a.2 12 r) + sl t)) (a.1 0)) (a.1 11)
def sl_pq (a : AV) (r i j x : Nat) : Bool := (!decide (a.2 12 r = i) || sl_so a r j x) && (!decide (a.2 12 r = j) || sl_so a r i x)
def sl_pr (a : AV) (W k i j x : Nat) : Bool := bAll (fun r => decide (W / 2 ^ r % 2 = 1) || sl_pq a r i j x) k
def sl_cb (a : AV) (W k : Nat) : Bool := bAll (fun r => decide (W / 2 ^ r % 2 = 1) || sl_so a r (a.2 12 r) 0) k
theorem sl_pq_s (a : AV) (r i j x : Nat) : sl_pq a r i j x = sl_pq a r j i x := by
  unfold sl_pq
  rw [Bool.and_comm]
theorem sl_pr_s (a : AV) (W i j x : Nat) : ∀ k, sl_pr a W k i j x = sl_pr a W k j i x := by
  intro k
  unfold sl_pr
  congr 1
  funext r
  rw [sl_pq_s]
theorem sl_iff {a : AV} (hv : Valid a) (W : Nat) (sl : Nat → Nat) : sl_gd a W sl = true ↔ sl_cb a W (a.1 11) = true ∧ ∀ i j, i < a.1 0 → j < a.1 0 → i ≠ j → sl_pr a W (a.1 11) i j (sl i + sl j) = true := by
  unfold sl_gd sl_cb sl_pr
  rw [bAll_iff, bAll_iff]
  constructor
  · intro h
    refine ⟨fun r hr => ?_, fun i j hi hj hij => ?_⟩
    · have h1 := h r hr
      rw [Bool.or_eq_true] at h1 ⊢
      rcases h1 with g | g
      · exact Or.inl g
      · right
        have := (bAll_iff _ _).mp g (a.2 12 r) (hv.2.2.2.2.2.2.2.2.2.1 r hr).1
        rw [if_pos rfl] at this
        exact this
    · rw [bAll_iff]
      intro r hr
      have h1 := h r hr
      rw [Bool.or_eq_true] at h1 ⊢
      rcases h1 with g | g
      · exact Or.inl g
      · right
        have g := (bAll_iff _ _).mp g
        unfold sl_pq
        rw [Bool.and_eq_true, Bool.or_eq_true, Bool.or_eq_true]
        constructor
        · by_cases c : a.2 12 r = i
          · right
            have := g j hj
            rw [if_neg (by omega), c] at this
            exact this
          · left; rw [decide_eq_false c]; rfl
        · by_cases c : a.2 12 r = j
          · right
            have := g i hi
            rw [if_neg (by omega), c, Nat.add_comm] at this
            exact this
          · left; rw [decide_eq_false c]; rfl
  · rintro ⟨h1, h2⟩ r hr
    have hp := (hv.2.2.2.2.2.2.2.2.2.1 r hr).1
    have g1 := h1 r hr
    rw [Bool.or_eq_true] at g1 ⊢
    rcases g1 with g | g
    · exact Or.inl g
    · by_cases cw : decide (W / 2 ^ r % 2 = 1) = true
      · exact Or.inl cw
      · right
        rw [bAll_iff]
        intro t ht
        by_cases c : t = a.2 12 r
        · rw [if_pos c, c]; exact g
        · rw [if_neg c]
          have := (bAll_iff _ _).mp (h2 (a.2 12 r) t hp ht (fun e => c e.symm)) r hr
          rw [Bool.or_eq_true] at this
          rcases this with q | q
          · exact absurd q cw
          · unfold sl_pq at q
            rw [Bool.and_eq_true, decide_eq_true (rfl : a.2 12 r = a.2 12 r)] at q
            exact q.1
theorem sl_pr1 (a : AV) (W k i j x : Nat) : sl_pr a W (k + 1) i j x = (sl_pr a W k i j x && (decide (W / 2 ^ k % 2 = 1) || sl_pq a k i j x)) := rfl
theorem sl_b2i (p q : Bool) : (b2i p = b2i q) ↔ p = q := by
  cases p <;> cases q <;> decide
theorem so_x {vs v : US} {a : AV} (hv : Valid a) (hx : RX v a) {r t x : Nat} (hr : r < a.1 11) (ht : t < a.1 0) (hx2 : x < 2 ^ 30) : f_X6_isSo vs v (nI r) (nI t) (nI x) = some (sl_so a r t x) := by
  have h5 := hv.1
  have h11 := hv.2.2.2.2.2.1
  have g := hv.2.2.2.2.2.2.2.2.2.1 r hr
  have e := hx.2.2.2.2.2.2.2.2.2.1 r hr
  have f := hx.2.2.2.2.2.2.2.1 t ht
  unfold f_X6_isSo
  rw [ck_in (by omega) (by decide), ck_in (by omega) (by decide), ck_in (by omega) (by decide), ck_in (by omega) (by decide), nI_clamp (n := r) (by omega), nI_clamp (n := t) (by omega), e.2.1, e.2.2, f.1, f.2.2.1, has_x (lt32 h5 g.2.2) (by omega), bs, mx0 (by omega) hx2]
  unfold sl_so
  by_cases c : kBec (nI (a.2 1 t)) false (nI (a.2 13 r - x)) (nI (a.2 3 t)) = decide (a.2 14 r / 2 ^ t % 2 = 1)
  · rw [if_pos (by rw [c]), c]
    simp
  · rw [if_neg (fun q => c ((sl_b2i _ _).mp q))]
    congr 1
    exact (beq_eq_false_iff_ne.mpr c).symm
theorem sf_x {N : Nat} {vs v : US} {a : AV} (hv : Valid a) (hx : RX v a) {r t : Nat} (hr : r < a.1 11) (ht : t < a.1 0) : ∀ d i k, i + d = 19 → d < k → f_X6_sumsFor_6 N k vs v (nI r) (nI t) (nI (bsum (sl_so a r t) i)) (nI i) = some (nI (bsum (sl_so a r t) 19)) := by
  intro d
  induction d with
  | zero =>
    intro i k hi hk
    obtain ⟨k, rfl⟩ : ∃ j, k = j + 1 := ⟨k - 1, by omega⟩
    have : i = 19 := by omega
    subst this
    show b_X6_sumsFor_6 N _ _ _ _ _ _ _ = _
    unfold b_X6_sumsFor_6
    rw [if_pos (by decide)]
  | succ d ih =>
    intro i k hi hk
    obtain ⟨k, rfl⟩ : ∃ j, k = j + 1 := ⟨k - 1, by omega⟩
    have IH := ih (i + 1) k (by omega) (by omega)
    have e6 : bsum (sl_so a r t) (i + 1) = bsum (sl_so a r t) i + if sl_so a r t i then 2 ^ i else 0 := rfl
    rw [e6] at IH
    have l := bsum_lt (sl_so a r t) i
    show b_X6_sumsFor_6 N _ _ _ _ _ _ _ = _
    unfold b_X6_sumsFor_6
    rw [if_neg (show ¬ (19 : Int32) ≤ nI i from nI_nle2 (a := 19) (by omega) (by decide)), so_x hv hx hr ht (by omega), bs, nI_1]
    cases q : sl_so a r t i
    · rw [q, if_neg (by decide), Nat.add_zero] at IH
      rw [iff0]; exact IH
    · rw [q, if_pos rfl] at IH
      rw [ift, bw_orb (by omega) l]; exact IH
theorem ix5 (r t : Nat) : nI r * 5 + nI t = nI (r * 5 + t) := by
  rw [show (5 : Int32) = nI 5 from rfl, pk_mul, nI_add]
/-- what is learnt of the rules -/
def XLr (vs : US) (a : AV) (r : Nat) : Prop := vs.2.2 3 r = nI (a.2 12 r) ∧ vs.2.2 4 r = b2i (sl_so a r (a.2 12 r) 0) ∧ ∀ t, t < a.1 0 → vs.2.2 5 (r * 5 + t) = nI (bsum (sl_so a r t) 19)
def XL (vs : US) (a : AV) : Prop := vs.1 1 = nI (a.1 0) ∧ vs.1 2 = nI (a.1 11) ∧ ∀ r, r < a.1 11 → XLr vs a r
theorem le_i {N : Nat} (hN : 200000 ≤ N) {g : US → US → Int32 → Option US} {v : US} {a : AV} (hv : Valid a) (hx : RX v a) {r : Nat} (hr : r < a.1 11) : ∀ d t k vs, t + d = a.1 0 → d < k → vs.1 1 = nI (a.1 0) → vs.1 2 = nI (a.1 11) → (∀ x, x < r → XLr vs a x) → vs.2.2 3 r = nI (a.2 12 r) → vs.2.2 4 r = b2i (sl_so a r (a.2 12 r) 0) → (∀ x, x < t → vs.2.2 5 (r * 5 + x) = nI (bsum (sl_so a r x) 19)) → ∃ vs', f_X6_learn_57 N g k vs v (nI r) (nI t) = g vs' v (nI (r + 1)) ∧ vs'.1 1 = nI (a.1 0) ∧ vs'.1 2 = nI (a.1 11) ∧ (∀ x, x < r + 1 → XLr vs' a x) := by
  have h5 := hv.1
  have h11 := hv.2.2.2.2.2.1
  intro d
  induction d with
  | zero =>
    intro t k vs ht hk e1 e2 hX e3 e4 e5
    obtain ⟨k, rfl⟩ : ∃ j, k = j + 1 := ⟨k - 1, by omega⟩
    have : t = a.1 0 := by omega
    subst this
    refine ⟨vs, ?_, e1, e2, fun x hx2 => ?_⟩
    · show b_X6_learn_57 N _ _ _ _ _ _ = _
      unfold b_X6_learn_57
      rw [e1, if_pos (nI_le (Nat.le_refl _) (by omega)), nI_1]
    · by_cases c : x = r
      · subst c; exact ⟨e3, e4, e5⟩
      · exact hX x (by omega)
  | succ d ih =>
    intro t k vs ht hk e1 e2 hX e3 e4 e5
    obtain ⟨k, rfl⟩ : ∃ j, k = j + 1 := ⟨k - 1, by omega⟩
    have ht2 : t < a.1 0 := by omega
    have sf : f_X6_sumsFor N vs v (nI r) (nI t) = some (nI (bsum (sl_so a r t) 19)) := sf_x (N := N) (vs := vs) hv hx hr ht2 19 0 N (by omega) (by omega)
    show ∃ vs', b_X6_learn_57 N _ _ _ _ _ _ = _ ∧ _
    unfold b_X6_learn_57
    rw [e1, if_neg (nI_nle2 (a := a.1 0) ht2 (by omega)), sf, bs, ix5, ck_in (by omega) (by decide), nI_clamp (by omega), nI_1]
    refine ih (t + 1) k _ (by omega) (by omega) e1 e2 (fun x hx2 => ?_) e3 e4 (fun x hx2 => ?_)
    · obtain ⟨q1, q2, q3⟩ := hX x hx2
      refine ⟨q1, q2, fun y hy => ?_⟩
      show upd (vs.2.2 5) _ _ _ = _
      rw [pk_un (by omega)]; exact q3 y hy
    · show upd (vs.2.2 5) _ _ _ = _
      by_cases c : x = t
      · rw [c, pk_us]
      · rw [pk_un (by omega)]; exact e5 x (by omega)
theorem le_o {N : Nat} (hN : 200000 ≤ N) {v : US} {a : AV} (hv : Valid a) (hx : RX v a) : ∀ d r k vs, r + d = a.1 11 → d < k → vs.1 1 = nI (a.1 0) → vs.1 2 = nI (a.1 11) → (∀ x, x < r → XLr vs a x) → ∃ vs', f_X6_learn_18 N k vs v (nI r) = some vs' ∧ XL vs' a := by
  have h5 := hv.1
  have h11 := hv.2.2.2.2.2.1
  intro d
  induction d with
  | zero =>
    intro r k vs hr hk e1 e2 hX
    obtain ⟨k, rfl⟩ : ∃ j, k = j + 1 := ⟨k - 1, by omega⟩
    have : r = a.1 11 := by omega
    subst this
    refine ⟨vs, ?_, e1, e2, hX⟩
    show b_X6_learn_18 N _ _ _ _ = _
    unfold b_X6_learn_18
    rw [e2, if_pos (nI_le (Nat.le_refl _) (by omega))]
  | succ d ih =>
    intro r k vs hr hk e1 e2 hX
    obtain ⟨k, rfl⟩ : ∃ j, k = j + 1 := ⟨k - 1, by omega⟩
    have hr2 : r < a.1 11 := by omega
    have e := hx.2.2.2.2.2.2.2.2.2.1 r hr2
    have g := (hv.2.2.2.2.2.2.2.2.2.1 r hr2).1
    have so : ∀ vs : US, f_X6_isSo vs v (nI r) (nI (a.2 12 r)) 0 = some (sl_so a r (a.2 12 r) 0) := fun vs => so_x (vs := vs) hv hx hr2 g (x := 0) (by decide)
    obtain ⟨vs1, q1, q2, q3, q4⟩ := le_i hN (g := f_X6_learn_18 N k) hv hx hr2 (a.1 0) 0 N (upa (upa vs 3 r (nI (a.2 12 r))) 4 r (b2i (sl_so a r (a.2 12 r) 0))) (by omega) (by omega) e1 e2 (fun x hx2 => by
      obtain ⟨p1, p2, p3⟩ := hX x hx2
      refine ⟨?_, ?_, p3⟩
      · show upd (vs.2.2 3) _ _ _ = _
        rw [pk_un (by omega)]; exact p1
      · show upd (vs.2.2 4) _ _ _ = _
        rw [pk_un (by omega)]; exact p2) (by
      show upd (vs.2.2 3) _ _ _ = _
      rw [pk_us]) (by
      show upd (vs.2.2 4) _ _ _ = _
      rw [pk_us]) (fun x hx2 => absurd hx2 (Nat.not_lt_zero x))
    have q1 : f_X6_learn_57 N (f_X6_learn_18 N k) N (upa (upa vs 3 r (nI (a.2 12 r))) 4 r (b2i (sl_so a r (a.2 12 r) 0))) v (nI r) 0 = _ := q1
    show ∃ vs', b_X6_learn_18 N _ _ _ _ = _ ∧ _
    unfold b_X6_learn_18
    rw [e2, if_neg (nI_nle2 (a := a.1 11) hr2 (by omega)), ck_in (by omega) (by decide), ck_in (by omega) (by decide), nI_clamp (by omega), e.1, so, bs, bnd_eq]
    rw [if_neg (by have := nI_in (c := r) (N := 4) (by omega) (by decide); rw [nI_clamp (by omega)] at this; exact this), q1]
    exact ih (r + 1) k vs1 (by omega) (by omega) q2 q3 q4
theorem le_x2 {N : Nat} (hN : 200000 ≤ N) {v : US} {a : AV} (hv : Valid a) (hx : RX v a) (vs : US) : ∃ vs', f_X6_learn N vs v = some vs' ∧ XL vs' a := by
  have h11 := hv.2.2.2.2.2.1
  unfold f_X6_learn
  rw [bnd_eq, hx.1, hx.2.2.2.2.2.1]
  exact le_o hN hv hx (a.1 11) 0 N _ (by omega) (by omega) rfl rfl (fun x hx2 => absurd hx2 (Nat.not_lt_zero x))
