/-! one pull, as numbers -/
def sdv (a : AV) (t : Nat) : Nat := a.2 2 t - a.1 6
def tvl (sl : Nat → Nat) (wh p n : Nat) : Nat := if wh / 2 ^ p % 2 = 0 then 0 else n - sl p
def mvl (sl : Nat → Nat) (wh p n q m t : Nat) : Nat := if t = p then n else if t = q then m else if wh / 2 ^ t % 2 = 0 then 0 else tvl sl wh p n + tvl sl wh q m - sl t
def bsum (f : Nat → Bool) : Nat → Nat
  | 0 => 0
  | k + 1 => bsum f k + if f k then 2 ^ k else 0
def becN (a : AV) (sl : Nat → Nat) (wh p n q m t : Nat) (z : Bool) : Bool := kBec (nI (a.2 1 t)) z (nI (mvl sl wh p n q m t)) (nI (a.2 3 t))
def aft (a : AV) (sl : Nat → Nat) (wh p n q m o : Nat) : Nat := bsum (fun t => becN a sl wh p n q m t (decide (o / 2 ^ t % 2 = 1))) (a.1 0)
def Sec (k q : Nat) (qi : Int32) : Prop := (q < k ∧ qi = nI q) ∨ (q = 5 ∧ qi = -1)
theorem bsum_lt (f : Nat → Bool) : ∀ n, bsum f n < 2 ^ n := by
  intro n
  induction n with
  | zero => exact Nat.one_pos
  | succ n ih =>
    show bsum f n + (if f n then 2 ^ n else 0) < 2 ^ (n + 1)
    rw [Nat.pow_succ]
    split <;> omega
theorem bsum_cg {f g : Nat → Bool} : ∀ n, (∀ i, i < n → f i = g i) → bsum f n = bsum g n := by
  intro n
  induction n with
  | zero => intro _; rfl
  | succ n ih =>
    intro h
    show bsum f n + (if f n then 2 ^ n else 0) = bsum g n + (if g n then 2 ^ n else 0)
    rw [ih (fun i hi => h i (by omega)), h n (by omega)]
theorem bsum_tb (f : Nat → Bool) (i : Nat) : ∀ n, Nat.testBit (bsum f n) i = (decide (i < n) && f i) := by
  intro n
  induction n with
  | zero => show Nat.testBit 0 i = _; rw [Nat.zero_testBit]; rfl
  | succ n ih =>
    show Nat.testBit (bsum f n + (if f n then 2 ^ n else 0)) i = _
    have hl := bsum_lt f n
    rcases Nat.lt_trichotomy i n with h | h | h
    · have e1 : decide (i < n) = true := decide_eq_true h
      have e2 : decide (i < n + 1) = true := decide_eq_true (by omega)
      rw [e2, ← e1, ← ih]
      split
      · rw [Nat.add_comm, Nat.testBit_two_pow_add_gt h]
      · rfl
    · subst h
      have e2 : decide (i < i + 1) = true := decide_eq_true (by omega)
      rw [e2]
      split
      · next q => rw [Nat.add_comm, Nat.testBit_two_pow_add_eq, Nat.testBit_lt_two_pow hl, q]; rfl
      · next q =>
        rw [Nat.add_zero, Nat.testBit_lt_two_pow hl]
        cases hq : f i
        · rfl
        · exact absurd hq q
    · have e2 : decide (i < n + 1) = false := decide_eq_false (by omega)
      rw [e2, Nat.testBit_lt_two_pow]
      · rfl
      · have := bsum_lt f (n + 1)
        exact Nat.lt_of_lt_of_le this (pow_mono (by omega))
theorem bit_tb (o t : Nat) : decide (o / 2 ^ t % 2 = 1) = Nat.testBit o t := by
  rw [Nat.testBit_eq_decide_div_mod_eq]
theorem and_nI : ∀ x, x < 32 → ∀ y, y < 32 → nI x &&& nI y = nI (x &&& y) := by decide +kernel
theorem xor_nI : ∀ x, x < 32 → ∀ y, y < 32 → nI x ^^^ nI y = nI (x ^^^ y) := by decide +kernel
theorem or_nI : ∀ x, x < 32 → ∀ y, y < 32 → nI x ||| nI y = nI (x ||| y) := by decide +kernel
theorem or_bit : ∀ t, t < 5 → ∀ x, x < 32 → x < 2 ^ t → nI x ||| ((1 : Int32) <<< (nI t &&& 31)) = nI (x + 2 ^ t) := by decide +kernel
theorem lt32 {n x : Nat} (hn : n ≤ 5) (h : x < 2 ^ n) : x < 32 := Nat.lt_of_lt_of_le h (pow_mono (b := 5) hn)
/-- what counts on, and what is turned, make the state behind -/
theorem ct_aft {n : Nat} (B : Nat → Bool → Bool) {o : Nat} (ho : o < 2 ^ n) : (o &&& bsum (fun t => B t false != B t true) n) ^^^ bsum (fun t => B t false) n = bsum (fun t => B t (decide (o / 2 ^ t % 2 = 1))) n := by
  apply Nat.eq_of_testBit_eq
  intro i
  rw [Nat.testBit_xor, Nat.testBit_and, bsum_tb, bsum_tb, bsum_tb, bit_tb]
  by_cases h : i < n
  · rw [decide_eq_true h]
    cases o.testBit i <;> cases B i false <;> cases B i true <;> rfl
  · rw [decide_eq_false h]
    cases o.testBit i <;> rfl
theorem has_x {wh t : Nat} (hw : wh < 32) (ht : t < 5) : f_X11_has (nI wh) (nI t) = some (decide (wh / 2 ^ t % 2 = 1)) := by
  unfold f_X11_has
  rw [(fin_bit t ht wh hw).1]
  rcases half2 wh t with h | h <;> rw [h]
  · rfl
  · rfl
theorem mx0 {x y : Nat} (hx : x < 2 ^ 30) (hy : y < 2 ^ 30) : (if 0 < nI x - nI y then nI x - nI y else 0) = nI (x - y) := by
  by_cases h : y < x
  · have e : nI x - nI y = nI (x - y) := pk_sub (by omega)
    rw [e, if_pos (pos0 (by omega) (by omega))]
  · rw [if_neg, show x - y = 0 by omega]
    · rfl
    · rw [Int32.lt_iff_toInt_lt, pk_sub_toInt hx hy, show (0 : Int32).toInt = 0 from by decide]
      omega
theorem sd_x {v : US} {a : AV} (hv : Valid a) (hx : RX v a) {t : Nat} (ht : t < a.1 0) : f_X9_slackInDamp v (nI t) = some (nI (sdv a t)) := by
  unfold f_X9_slackInDamp
  have h5 := hv.1
  have h6 := hv.2.2.1
  have h7 := (hv.2.2.2.2.2.2.2.1 t ht).2.1
  rw [ck_in (by omega) (by decide), nI_clamp (by omega), (hx.2.2.2.2.2.2.2.1 t ht).2.1, hx.2.2.1, mx0 (by omega) (by omega)]
  rfl
theorem sdv_le {a : AV} (hv : Valid a) {t : Nat} (ht : t < a.1 0) : sdv a t ≤ 9 := by
  have h7 := (hv.2.2.2.2.2.2.2.1 t ht).2.1
  unfold sdv
  omega
theorem tvl_le (sl : Nat → Nat) (wh p n : Nat) : tvl sl wh p n ≤ n := by
  unfold tvl; split <;> omega
theorem tvl_5 (sl : Nat → Nat) {wh : Nat} (h : wh < 32) (n : Nat) : tvl sl wh 5 n = 0 := by
  unfold tvl; rw [if_pos]; omega
theorem tb_x {v : US} {a : AV} (hv : Valid a) (hx : RX v a) {wh q m : Nat} {qi : Int32} (hw : wh < 32) (hq : Sec (a.1 0) q qi) (hm : m ≤ 20) : f_X8_travelBy v (nI wh) qi (nI m) = some (nI (tvl (sdv a) wh q m)) := by
  unfold f_X8_travelBy
  have h5 := hv.1
  rcases hq with ⟨h, rfl⟩ | ⟨rfl, rfl⟩
  · have ne : ¬ nI q = -1 := by
      intro e
      have := nI_toInt (n := q) (by omega)
      rw [e, show (-1 : Int32).toInt = -1 from by decide] at this
      omega
    rw [if_neg ne, has_x hw (by omega), bs]
    unfold tvl
    rcases half2 wh q with e | e <;> rw [e]
    · rfl
    · rw [if_neg (by decide), if_neg (by decide), sd_x hv hx h, bs, mx0 (by omega) (by have := sdv_le hv h; omega)]
  · rw [if_pos rfl, tvl_5 _ hw]; rfl
theorem mvl_le (sl : Nat → Nat) {wh p n q m t : Nat} (hn : n ≤ 20) (hm : m ≤ 20) : mvl sl wh p n q m t ≤ 40 := by
  unfold mvl
  have := tvl_le sl wh p n
  have := tvl_le sl wh q m
  split
  · omega
  · split
    · omega
    · split <;> omega
theorem neg1 {q : Nat} (h : q < 5) : ¬ nI q = -1 := by
  intro e
  have := nI_toInt (n := q) (by omega)
  rw [e, show (-1 : Int32).toInt = -1 from by decide] at this
  omega
theorem sec_ne {k q t : Nat} {qi : Int32} (hk : k ≤ 5) (hq : Sec k q qi) (ht : t < 5) : nI t = qi ↔ t = q := by
  rcases hq with ⟨h, rfl⟩ | ⟨rfl, rfl⟩
  · exact nI_eq (by omega) (by omega)
  · exact ⟨fun h => absurd h (neg1 ht), fun h => by omega⟩
/-- a swing that holds a pull -/
def SwF (sw : US) (a : AV) (wh p n q m : Nat) : Prop := sw.1 1 = nI p ∧ sw.1 2 = nI n ∧ Sec (a.1 0) q (sw.1 3) ∧ sw.1 4 = nI m ∧ sw.1 5 = nI (tvl (sdv a) wh p n + tvl (sdv a) wh q m)
theorem mo_x {v sw : US} {a : AV} (hv : Valid a) (hx : RX v a) {wh p n q m t : Nat} (hs : SwF sw a wh p n q m) (hw : wh < 32) (hp : p < a.1 0) (hn : n ≤ 20) (hm : m ≤ 20) (ht : t < a.1 0) : f_X8_moveOf sw v (nI wh) (nI t) = some (nI (mvl (sdv a) wh p n q m t)) := by
  obtain ⟨s1, s2, s3, s4, s5⟩ := hs
  have h5 := hv.1
  have l1 := tvl_le (sdv a) wh p n
  have l2 := tvl_le (sdv a) wh q m
  unfold f_X8_moveOf mvl
  rw [s1, s2, s4, s5]
  by_cases c1 : t = p
  · rw [if_pos (by rw [c1]), if_pos c1]
  · rw [if_neg (fun e => c1 ((nI_eq (by omega) (by omega)).mp e)), if_neg c1]
    by_cases c2 : t = q
    · rw [if_pos ((sec_ne h5 s3 (by omega)).mpr c2), if_pos c2]
    · rw [if_neg (fun e => c2 ((sec_ne h5 s3 (by omega)).mp e)), if_neg c2, has_x hw (by omega), bs]
      rcases half2 wh t with e | e <;> rw [e]
      · rfl
      · rw [if_neg (by decide), if_neg (by decide), sd_x hv hx ht, bs, mx0 (by omega) (by have := sdv_le hv ht; omega)]
theorem b2i_eq (x y : Bool) : (b2i x = b2i y) ↔ x = y := by
  cases x <;> cases y <;> decide
theorem by_l {N : Nat} {v : US} {a : AV} (hv : Valid a) (hx : RX v a) {wh p n q m : Nat} (hw : wh < 32) (hp : p < a.1 0) (hn : n ≤ 20) (hm : m ≤ 20) : ∀ d i k sw, i + d = a.1 0 → d < k → SwF sw a wh p n q m → sw.1 6 = nI (bsum (fun t => becN a (sdv a) wh p n q m t false != becN a (sdv a) wh p n q m t true) i) → sw.1 7 = nI (bsum (fun t => becN a (sdv a) wh p n q m t false) i) → ∃ sw', f_X8_by_58 N k sw v (nI wh) (nI i) = some sw' ∧ SwF sw' a wh p n q m ∧ sw'.1 6 = nI (bsum (fun t => becN a (sdv a) wh p n q m t false != becN a (sdv a) wh p n q m t true) (a.1 0)) ∧ sw'.1 7 = nI (bsum (fun t => becN a (sdv a) wh p n q m t false) (a.1 0)) := by
  have h5 := hv.1
  intro d
  induction d with
  | zero =>
    intro i k sw hi hk hs h6 h7
    obtain ⟨k, rfl⟩ : ∃ j, k = j + 1 := ⟨k - 1, by omega⟩
    have : i = a.1 0 := by omega
    subst this
    refine ⟨sw, ?_, hs, h6, h7⟩
    show b_X8_by_58 N _ _ _ _ _ = _
    unfold b_X8_by_58
    rw [hx.1, if_pos (nI_le (Nat.le_refl _) (by omega))]
  | succ d ih =>
    intro i k sw hi hk hs h6 h7
    obtain ⟨k, rfl⟩ : ∃ j, k = j + 1 := ⟨k - 1, by omega⟩
    have hi5 : i < 5 := by omega
    have hia : i < a.1 0 := by omega
    show ∃ sw', b_X8_by_58 N _ _ _ _ _ = some sw' ∧ _
    unfold b_X8_by_58
    rw [hx.1, if_neg (nI_nle2 (a := a.1 0) hia (by omega)), ck_in hi5 (by decide), mo_x hv hx hs hw hp hn hm hia, bs, ck_in hi5 (by decide), ck_in hi5 (by decide), nI_clamp (by omega), (hx.2.2.2.2.2.2.2.1 i hia).1, (hx.2.2.2.2.2.2.2.1 i hia).2.2.1]
    show ∃ sw', (if b2i (becN a (sdv a) wh p n q m i false) = 0 then b_X8_by_145 N _ sw v (nI wh) (nI i) (b2i (becN a (sdv a) wh p n q m i false)) (b2i (becN a (sdv a) wh p n q m i true)) else b_X8_by_145 N _ _ v (nI wh) (nI i) (b2i (becN a (sdv a) wh p n q m i false)) (b2i (becN a (sdv a) wh p n q m i true))) = some sw' ∧ _
    unfold b_X8_by_145
    rw [h6, h7]
    have g6 : nI (bsum (fun t => becN a (sdv a) wh p n q m t false != becN a (sdv a) wh p n q m t true) i) ||| ((1 : Int32) <<< (nI i &&& 31)) = nI (bsum (fun t => becN a (sdv a) wh p n q m t false != becN a (sdv a) wh p n q m t true) i + 2 ^ i) := or_bit i hi5 _ (lt32 (by omega) (bsum_lt _ i)) (bsum_lt _ i)
    have g7 : nI (bsum (fun t => becN a (sdv a) wh p n q m t false) i) ||| ((1 : Int32) <<< (nI i &&& 31)) = nI (bsum (fun t => becN a (sdv a) wh p n q m t false) i + 2 ^ i) := or_bit i hi5 _ (lt32 (by omega) (bsum_lt _ i)) (bsum_lt _ i)
    have e6 : bsum (fun t => becN a (sdv a) wh p n q m t false != becN a (sdv a) wh p n q m t true) (i + 1) = bsum (fun t => becN a (sdv a) wh p n q m t false != becN a (sdv a) wh p n q m t true) i + if (becN a (sdv a) wh p n q m i false != becN a (sdv a) wh p n q m i true) then 2 ^ i else 0 := rfl
    have e7 : bsum (fun t => becN a (sdv a) wh p n q m t false) (i + 1) = bsum (fun t => becN a (sdv a) wh p n q m t false) i + if becN a (sdv a) wh p n q m i false then 2 ^ i else 0 := rfl
    have IH := fun sw => ih (i + 1) k sw (by omega) (by omega)
    rw [nI_1]
    rw [e6, e7] at IH
    generalize becN a (sdv a) wh p n q m i false = B0 at IH ⊢
    generalize becN a (sdv a) wh p n q m i true = B1 at IH ⊢
    cases B0 <;> cases B1
    · exact IH sw hs (h6.trans rfl) (h7.trans rfl)
    · exact IH (upi sw 6 _) hs g6 (h7.trans rfl)
    · exact IH (upi (upi sw 7 _) 6 _) hs (by show (sw.1 6 ||| _) = _; rw [h6]; exact g6) g7
    · exact IH (upi sw 7 _) hs (h6.trans rfl) g7
theorem by_x {N : Nat} (hN : 200000 ≤ N) {v : US} {a : AV} (hv : Valid a) (hx : RX v a) {wh p n q m : Nat} {qi : Int32} (hw : wh < 32) (hp : p < a.1 0) (hn : n ≤ 20) (hq : Sec (a.1 0) q qi) (hm : m ≤ 20) (sw : US) : ∃ sw', f_X8_by N sw v (nI wh) (nI p) (nI n) qi (nI m) = some sw' ∧ SwF sw' a wh p n q m ∧ sw'.1 6 = nI (bsum (fun t => becN a (sdv a) wh p n q m t false != becN a (sdv a) wh p n q m t true) (a.1 0)) ∧ sw'.1 7 = nI (bsum (fun t => becN a (sdv a) wh p n q m t false) (a.1 0)) := by
  have h5 := hv.1
  unfold f_X8_by
  simp only [bnd_eq]
  rw [tb_x hv hx hw (Or.inl ⟨hp, rfl⟩) hn, bs, tb_x hv hx hw hq hm, bs, nI_add]
  exact by_l hv hx hw hp hn hm (a.1 0) 0 N _ (by omega) (by omega) ⟨rfl, rfl, hq, rfl, rfl⟩ rfl rfl
theorem bh_x {sw : US} {a : AV} {wh p n q m o : Nat} (h5 : a.1 0 ≤ 5) (ho : o < 2 ^ a.1 0) (h6 : sw.1 6 = nI (bsum (fun t => becN a (sdv a) wh p n q m t false != becN a (sdv a) wh p n q m t true) (a.1 0))) (h7 : sw.1 7 = nI (bsum (fun t => becN a (sdv a) wh p n q m t false) (a.1 0))) : f_X8_behind sw (nI o) = some (nI (aft a (sdv a) wh p n q m o)) := by
  unfold f_X8_behind
  have l1 := bsum_lt (fun t => becN a (sdv a) wh p n q m t false != becN a (sdv a) wh p n q m t true) (a.1 0)
  have l2 := bsum_lt (fun t => becN a (sdv a) wh p n q m t false) (a.1 0)
  have l3 : o &&& bsum (fun t => becN a (sdv a) wh p n q m t false != becN a (sdv a) wh p n q m t true) (a.1 0) < 32 := Nat.lt_of_le_of_lt Nat.and_le_left (lt32 h5 ho)
  rw [h6, h7, and_nI _ (lt32 h5 ho) _ (lt32 h5 l1), xor_nI _ l3 _ (lt32 h5 l2)]
  rw [ct_aft (fun t z => becN a (sdv a) wh p n q m t z) ho]
  rfl
