/-! harm of ropes -/
def hmN (a : AV) (s : Nat) : Nat → Nat
  | 0 => 0
  | t + 1 => hmN a s t + s / 2 ^ t % 2 * a.2 4 t
theorem hmN_le {a : AV} (hv : Valid a) (s : Nat) : ∀ i, i ≤ a.1 0 → hmN a s i ≤ 9 * i := by
  intro i
  induction i with
  | zero => intro _; exact Nat.le_refl _
  | succ i ih =>
    intro h
    have h9 := (hv.2.2.2.2.2.2.2.1 i (by omega)).2.2.2.2
    have := ih (by omega)
    show hmN a s i + s / 2 ^ i % 2 * a.2 4 i ≤ _
    rcases half2 s i with q | q <;> rw [q] <;> omega
theorem hm_x1 {N : Nat} {v : US} {a : AV} (hv : Valid a) (hx : RX v a) {s : Nat} (hs : s < 32) : ∀ d i k, i + d = a.1 0 → d < k → f_X9_harmOf_4 N k v (nI s) (nI (hmN a s i)) (nI i) = some (nI (hmN a s (a.1 0))) := by
  have h5 := hv.1
  intro d
  induction d with
  | zero =>
    intro i k hi hk
    obtain ⟨k, rfl⟩ : ∃ j, k = j + 1 := ⟨k - 1, by omega⟩
    have : i = a.1 0 := by omega
    subst this
    show b_X9_harmOf_4 N _ _ _ _ _ = _
    unfold b_X9_harmOf_4
    rw [hx.1, if_pos (nI_le (Nat.le_refl _) (by omega))]
  | succ d ih =>
    intro i k hi hk
    obtain ⟨k, rfl⟩ : ∃ j, k = j + 1 := ⟨k - 1, by omega⟩
    have IH := ih (i + 1) k (by omega) (by omega)
    have e6 : hmN a s (i + 1) = hmN a s i + s / 2 ^ i % 2 * a.2 4 i := rfl
    rw [e6] at IH
    show b_X9_harmOf_4 N _ _ _ _ _ = _
    unfold b_X9_harmOf_4
    rw [hx.1, if_neg (nI_nle2 (a := a.1 0) (by omega) (by omega)), has_x hs (by omega), bs, ck_in (by omega) (by decide), nI_clamp (by omega), (hx.2.2.2.2.2.2.2.1 i (by omega)).2.2.2, nI_add, nI_1]
    rcases half2 s i with q | q
    · rw [q, Nat.zero_mul, Nat.add_zero] at IH
      rw [q, if_pos (by decide)]; exact IH
    · rw [q, Nat.one_mul] at IH
      rw [q, if_neg (by decide)]; exact IH
theorem harm_x {N : Nat} (hN : 200000 ≤ N) {v : US} {a : AV} (hv : Valid a) (hx : RX v a) {s : Nat} (hs : s < 32) : f_X9_harmOf N v (nI s) = some (nI (hmN a s (a.1 0))) := hm_x1 hv hx hs (a.1 0) 0 N (by omega) (by have := hv.1; omega)
theorem hm_m1 {N : Nat} {vm : US} {w : Nat → Int32} {a : AV} (hv : Valid a) (hm : RM w a) {s : Nat} (hs : s < 32) : ∀ d i k, i + d = a.1 0 → d < k → f_X12_harmOf_4 N k vm w (nI s) (nI (hmN a s i)) (nI i) = some (nI (hmN a s (a.1 0))) := by
  have h5 := hv.1
  intro d
  induction d with
  | zero =>
    intro i k hi hk
    obtain ⟨k, rfl⟩ : ∃ j, k = j + 1 := ⟨k - 1, by omega⟩
    have : i = a.1 0 := by omega
    subst this
    show b_X12_harmOf_4 N _ _ _ _ _ _ = _
    unfold b_X12_harmOf_4
    rw [m_things, bs, hm.1, if_pos (nI_le (Nat.le_refl _) (by omega))]
  | succ d ih =>
    intro i k hi hk
    obtain ⟨k, rfl⟩ : ∃ j, k = j + 1 := ⟨k - 1, by omega⟩
    have IH := ih (i + 1) k (by omega) (by omega)
    show b_X12_harmOf_4 N _ _ _ _ _ _ = _
    unfold b_X12_harmOf_4
    rw [m_things, bs, hm.1, if_neg (nI_nle2 (a := a.1 0) (by omega) (by omega)), show (3 : Int32) = nI 3 from rfl, of_m (by omega) (by decide), bs, show 1 + 5 * i + 3 = 4 + 5 * i by omega, (hm.2.2.2.2.2.2.1 i (by omega)).2.2.2.1, (fin_bit i (by omega) s hs).1, pk_mul, nI_add, nI_1]
    exact IH
theorem harm_m {N : Nat} (hN : 200000 ≤ N) {vm : US} {w : Nat → Int32} {a : AV} (hv : Valid a) (hm : RM w a) {s : Nat} (hs : s < 32) : f_X12_harmOf N vm w (nI s) = some (nI (hmN a s (a.1 0))) := hm_m1 hv hm hs (a.1 0) 0 N (by omega) (by have := hv.1; omega)
def hb (a : AV) (wh : Nat) : Nat → Nat
  | 0 => 0
  | e + 1 => hb a wh e + hmN a (act a wh e 0) (a.1 0)
theorem hb_le {a : AV} (hv : Valid a) (wh : Nat) : ∀ i, hb a wh i ≤ 45 * i := by
  intro i
  induction i with
  | zero => exact Nat.le_refl _
  | succ i ih =>
    have := hmN_le hv (act a wh i 0) (a.1 0) (Nat.le_refl _)
    have := hv.1
    show hb a wh i + hmN a (act a wh i 0) (a.1 0) ≤ _
    omega
theorem fh_i {N : Nat} (hN : 200000 ≤ N) {g : US → US → US → Int32 → Option (US × US)} {v vd sw : US} {a : AV} (hv : Valid a) (hx : RX v a) {wh : Nat} (hw : wh < 32) (hd : DayF vd a wh) : ∀ d e k, e + d = a.1 8 → d < k → f_X0_findHarmOfRopes_23 N g k vd v sw (nI wh) (nI (hb a wh e)) (nI e) = g (upa vd 15 wh (nI (hb a wh (a.1 8)))) v sw (nI (wh + 1)) := by
  have h8 := hv.2.2.2.2.1
  intro d
  induction d with
  | zero =>
    intro e k he hk
    obtain ⟨k, rfl⟩ : ∃ j, k = j + 1 := ⟨k - 1, by omega⟩
    have : e = a.1 8 := by omega
    subst this
    show b_X0_findHarmOfRopes_23 N _ _ _ _ _ _ _ _ = _
    unfold b_X0_findHarmOfRopes_23
    rw [hd.1, if_pos (nI_le (Nat.le_refl _) (by omega)), ck_in hw (by decide), nI_clamp (by omega), nI_1]
  | succ d ih =>
    intro e k he hk
    obtain ⟨k, rfl⟩ : ∃ j, k = j + 1 := ⟨k - 1, by omega⟩
    have bd : f_X0_behind vd (nI e) 0 = some (nI (act a wh e 0)) := bh_d hv (hd.2 e (by omega)) (by omega) (o := 0) (Nat.two_pow_pos _)
    show b_X0_findHarmOfRopes_23 N _ _ _ _ _ _ _ _ = _
    unfold b_X0_findHarmOfRopes_23
    rw [hd.1, if_neg (nI_nle2 (a := a.1 8) (by omega) (by omega)), bd, bs, harm_x hN hv hx (lt32 hv.1 (act_lt a wh e 0)), bs, nI_add, nI_1]
    exact ih (e + 1) k (by omega) (by omega)
theorem fh_o {N : Nat} (hN : 200000 ≤ N) {v : US} {a : AV} (hv : Valid a) (hx : RX v a) : ∀ d i k vd sw, i + d = 2 ^ a.1 0 → d < k → (∀ W, W < i → vd.2.2 15 W = nI (hb a W (a.1 8))) → ∃ vd' sw', f_X0_findHarmOfRopes_2 N k vd v sw (nI i) = some (vd', sw') ∧ (∀ W, W < 2 ^ a.1 0 → vd'.2.2 15 W = nI (hb a W (a.1 8))) := by
  have h5 := hv.1
  have h8 := hv.2.2.2.2.1
  have hp := pow5 h5
  intro d
  induction d with
  | zero =>
    intro i k vd sw hi hk h
    obtain ⟨k, rfl⟩ : ∃ j, k = j + 1 := ⟨k - 1, by omega⟩
    have : i = 2 ^ a.1 0 := by omega
    subst this
    refine ⟨vd, sw, ?_, h⟩
    show b_X0_findHarmOfRopes_2 N _ _ _ _ _ = _
    unfold b_X0_findHarmOfRopes_2
    rw [hx.1, shl1 h5, if_pos (nI_le (Nat.le_refl _) (by omega))]
  | succ d ih =>
    intro i k vd sw hi hk h
    obtain ⟨k, rfl⟩ : ∃ j, k = j + 1 := ⟨k - 1, by omega⟩
    obtain ⟨vd1, sw1, l1, l2, -, -, l3⟩ := lk_x hN hv hx (wh := i) (by omega) vd sw
    have fi := fh_i hN (g := f_X0_findHarmOfRopes_2 N k) (sw := sw1) hv hx (wh := i) (by omega) l2 (a.1 8) 0 N (by omega) (by omega)
    have fi : f_X0_findHarmOfRopes_23 N (f_X0_findHarmOfRopes_2 N k) N vd1 v sw1 (nI i) 0 0 = _ := fi
    show ∃ vd' sw', b_X0_findHarmOfRopes_2 N _ _ _ _ _ = _ ∧ _
    unfold b_X0_findHarmOfRopes_2
    rw [hx.1, shl1 h5, if_neg (nI_nle2 (a := 2 ^ a.1 0) (by omega) (by omega)), l1, bs, fi]
    refine ih (i + 1) k _ sw1 (by omega) (by omega) (fun W hW => ?_)
    show upd (vd1.2.2 15) i _ W = _
    by_cases c : W = i
    · rw [c, pk_us]
    · rw [pk_un c, l3 15 (by decide) (by decide) (by decide)]; exact h W (by omega)
theorem hb_i {N : Nat} (hN : 200000 ≤ N) {w : Nat → Int32} {a : AV} (hv : Valid a) (hm : RM w a) {wh : Nat} (hw : wh < 32) : ∀ d e k vm, e + d = a.1 8 → d < k → Taken vm a wh → ∃ vm', f_X12_harmBy_9 N k vm w (nI (hb a wh e)) (nI e) = some (nI (hb a wh (a.1 8)), vm') ∧ FrM vm vm' := by
  have h8 := hv.2.2.2.2.1
  intro d
  induction d with
  | zero =>
    intro e k vm he hk ht
    obtain ⟨k, rfl⟩ : ∃ j, k = j + 1 := ⟨k - 1, by omega⟩
    have : e = a.1 8 := by omega
    subst this
    refine ⟨vm, ?_, FrM.rf _⟩
    show b_X12_harmBy_9 N _ _ _ _ _ = _
    unfold b_X12_harmBy_9
    rw [m_errands, bs, hm.2.2.2.1, if_pos (nI_le (Nat.le_refl _) (by omega))]
  | succ d ih =>
    intro e k vm he hk ht
    obtain ⟨k, rfl⟩ : ∃ j, k = j + 1 := ⟨k - 1, by omega⟩
    obtain ⟨vm1, d1, d2⟩ := de_m hN hv hm hw ht (e := e) (by omega) (o := 0) (by decide)
    have d1 : f_X12_doErrand N vm w (nI e) 0 = _ := d1
    obtain ⟨vm', r1, r2⟩ := ih (e + 1) k vm1 (by omega) (by omega) (d2.tk ht)
    refine ⟨vm', ?_, d2.tr r2⟩
    show b_X12_harmBy_9 N _ _ _ _ _ = _
    unfold b_X12_harmBy_9
    rw [m_errands, bs, hm.2.2.2.1, if_neg (nI_nle2 (a := a.1 8) (by omega) (by omega)), d1, bs, harm_m hN hv hm (lt32 hv.1 (act_lt a wh e 0)), bs, nI_add, nI_1]
    exact r1
theorem hb_m {N : Nat} (hN : 200000 ≤ N) {vm : US} {w : Nat → Int32} {a : AV} (hv : Valid a) (hm : RM w a) {wh : Nat} (hw : wh < 32) (hs : SlT vm a) : ∃ vm', f_X12_harmBy N vm w (nI wh) = some (nI (hb a wh (a.1 8)), vm') ∧ SlT vm' a ∧ ScrM vm vm' := by
  have h8 := hv.2.2.2.2.1
  obtain ⟨vm', r1, r2⟩ := hb_i hN hv hm hw (a.1 8) 0 N (upi vm 7 (nI wh)) (by omega) (by omega) ⟨rfl, hs⟩
  refine ⟨vm', r1, ?_, ScrM.tr ⟨rfl, rfl, rfl, rfl, rfl, rfl⟩ r2.sc⟩
  unfold SlT
  rw [r2.1]; exact hs
/-- factorials -/
def facN : Nat → Nat
  | 0 => 1
  | n + 1 => (n + 1) * facN n
theorem fac_x : ∀ n, n < 6 → facL.getD n 0 = nI (facN n) := by decide +kernel
theorem fac_m {N n : Nat} (hN : 200000 ≤ N) (hn : n ≤ 5) : f_X12_factorial N (nI n) = some (nI (facN n)) := by
  obtain ⟨k, rfl⟩ : ∃ j, N = j + 10 := ⟨N - 10, by omega⟩
  have : n = 0 ∨ n = 1 ∨ n = 2 ∨ n = 3 ∨ n = 4 ∨ n = 5 := by omega
  rcases this with rfl | rfl | rfl | rfl | rfl | rfl <;> rfl
theorem facN_le : ∀ n, n < 5 → ∀ p, p < 6 → p ≤ n → facN p * facN (n - p) ≤ 24 := by decide +kernel
def shr (a : AV) (t : Nat) : Nat → Int
  | 0 => 0
  | i + 1 => shr a t i + if i / 2 ^ t % 2 = 0 then ((facN (pcd 5 i) * facN (a.1 0 - 1 - pcd 5 i) : Nat) : Int) * ((hb a (i + 2 ^ t) (a.1 8) : Int) - (hb a i (a.1 8) : Int)) else 0
theorem pcd_n : ∀ n, n < 6 → ∀ i, i < 32 → ∀ t, t < 5 → (!decide (i < 2 ^ n) || !decide (t < n) || !decide (i / 2 ^ t % 2 = 0) || decide (pcd 5 i ≤ n - 1)) = true := by decide +kernel
theorem add_bit : ∀ t, t < 5 → ∀ i, i < 32 → i / 2 ^ t % 2 = 0 → (nI i ||| ((1 : Int32) <<< (nI t &&& 31)) = nI (i + 2 ^ t) ∧ nI i &&& ((1 : Int32) <<< (nI t &&& 31)) = 0) := by decide +kernel
theorem and_bit : ∀ t, t < 5 → ∀ i, i < 32 → i / 2 ^ t % 2 = 1 → ¬ nI i &&& ((1 : Int32) <<< (nI t &&& 31)) = 0 := by decide +kernel
theorem add_lt : ∀ n, n < 6 → ∀ i, i < 32 → ∀ t, t < 5 → (!decide (i < 2 ^ n) || !decide (t < n) || !decide (i / 2 ^ t % 2 = 0) || decide (i + 2 ^ t < 2 ^ n)) = true := by decide +kernel
