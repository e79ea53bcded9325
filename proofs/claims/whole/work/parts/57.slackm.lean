/-! slacks: the reference -/
theorem bsum_eq {f : Nat → Bool} {n S : Nat} (hS : S < 2 ^ n) : bsum f n = S ↔ ∀ t, t < n → f t = decide (S / 2 ^ t % 2 = 1) := by
  constructor
  · intro h t ht
    rw [bit_tb, ← h, bsum_tb, decide_eq_true ht, Bool.true_and]
  · intro h
    apply Nat.eq_of_testBit_eq
    intro i
    rw [bsum_tb]
    by_cases c : i < n
    · rw [decide_eq_true c, Bool.true_and, h i c, bit_tb]
    · rw [decide_eq_false c, Nat.testBit_lt_two_pow (Nat.lt_of_lt_of_le hS (pow_mono (by omega)))]
      rfl
theorem all_bit : ∀ n, n < 6 → ∀ t, t < 5 → t < n → (2 ^ n - 1) / 2 ^ t % 2 = 1 := by decide +kernel
def sl_rl (a : AV) (sl : Nat → Nat) (r : Nat) : Bool := bAll (fun t => sl_so a r t (if t = a.2 12 r then 0 else sl (a.2 12 r) + sl t)) (a.1 0)
theorem aft_iff {a : AV} (hv : Valid a) {sl : Nat → Nat} {r : Nat} (hr : r < a.1 11) : aft a sl (2 ^ a.1 0 - 1) (a.2 12 r) (a.2 13 r) 5 0 0 = a.2 14 r ↔ sl_rl a sl r = true := by
  have h5 := hv.1
  have hp := pow5 h5
  have g := hv.2.2.2.2.2.2.2.2.2.1 r hr
  unfold aft sl_rl
  rw [bsum_eq g.2.2, bAll_iff]
  have e : ∀ t, t < a.1 0 → becN a sl (2 ^ a.1 0 - 1) (a.2 12 r) (a.2 13 r) 5 0 t (decide (0 / 2 ^ t % 2 = 1)) = kBec (nI (a.2 1 t)) false (nI (a.2 13 r - (if t = a.2 12 r then 0 else sl (a.2 12 r) + sl t))) (nI (a.2 3 t)) := by
    intro t ht
    unfold becN mvl
    rw [Nat.zero_div, show decide (0 % 2 = 1) = false from rfl]
    by_cases c : t = a.2 12 r
    · rw [if_pos c, if_pos c, Nat.sub_zero]
    · rw [if_neg c, if_neg c, if_neg (by omega), all_bit _ (by omega) t (by omega) ht, if_neg (by decide), tvl_5 _ (by omega)]
      unfold tvl
      rw [all_bit _ (by omega) _ (by omega) g.1, if_neg (by decide), Nat.add_zero, Nat.sub_sub]
  constructor
  · intro h t ht
    unfold sl_so
    rw [← e t ht, h t ht]
    simp
  · intro h t ht
    have := h t ht
    unfold sl_so at this
    rw [← e t ht] at this
    exact eq_of_beq this
theorem bAll_f {f : Nat → Bool} {i : Nat} (h : bAll f i = false) : ∀ d, bAll f (i + d) = false := by
  intro d
  induction d with
  | zero => exact h
  | succ d ih =>
    show (bAll f (i + d) && _) = false
    rw [ih]; rfl
def SlW (vm : US) (a : AV) (sl : Nat → Nat) : Prop := vm.1 7 = nI (2 ^ a.1 0 - 1) ∧ ∀ t, t < a.1 0 → vm.2.2 6 t = nI (sl t) ∧ sl t ≤ 9
theorem sl_op {vm : US} {a : AV} (hv : Valid a) {sl : Nat → Nat} {p n : Nat} (ht : SlW vm a sl) (hp : p < a.1 0) (hn : n ≤ 20) : ∃ vm', f_X12_onePull vm (nI p) (nI n) = some vm' ∧ MPl vm' (a.1 0) sl (2 ^ a.1 0 - 1) p n 5 0 ∧ FrM vm vm' := by
  have hp2 := pow5 hv.1
  refine ⟨_, rfl, ⟨ht.1, by omega, fun t h => ht.2 t h, ⟨rfl, hp, rfl, hn⟩, Or.inr ⟨rfl, rfl⟩, rfl, by decide⟩, rfl, fun k hk => ?_⟩
  show (if k = 11 then _ else if k = 10 then _ else if k = 9 then _ else if k = 8 then _ else vm.1 k) = _
  rw [if_neg (by omega), if_neg (by omega), if_neg (by omega), if_neg (by omega)]
theorem FrM.sw {x y : US} (h : FrM x y) {a : AV} {sl : Nat → Nat} (t : SlW x a sl) : SlW y a sl := ⟨(h.2 7 (by omega)).trans t.1, by rw [h.1]; exact t.2⟩
theorem at40 (e : Nat) : (40 : Int32) + 3 * nI e = nI (40 + 3 * e) := by
  rw [show (40 : Int32) = nI 40 from rfl, show (3 : Int32) = nI 3 from rfl, pk_mul, nI_add]
def sl_F (a : AV) (W : Nat) (sl : Nat → Nat) (r : Nat) : Bool := decide (W / 2 ^ r % 2 = 1) || sl_rl a sl r
theorem im_l {N : Nat} (hN : 200000 ≤ N) {w : Nat → Int32} {a : AV} (hv : Valid a) (hm : RM w a) {W : Nat} (hW : W < 32) {sl : Nat → Nat} : ∀ d r k vm, r + d = a.1 11 → d < k → SlW vm a sl → ∃ vm', f_X12_isSo_4 N k vm w (nI W) (bAll (sl_F a W sl) r) (nI r) = some (bAll (sl_F a W sl) (a.1 11), vm') ∧ FrM vm vm' := by
  have h5 := hv.1
  have h11 := hv.2.2.2.2.2.1
  intro d
  induction d with
  | zero =>
    intro r k vm hr hk ht
    obtain ⟨k, rfl⟩ : ∃ j, k = j + 1 := ⟨k - 1, by omega⟩
    have : r = a.1 11 := by omega
    subst this
    refine ⟨vm, ?_, FrM.rf _⟩
    show b_X12_isSo_4 N _ _ _ _ _ _ = _
    unfold b_X12_isSo_4
    rw [m_rules, bs, hm.2.2.2.2.1, if_pos (nI_le (Nat.le_refl _) (by omega))]
  | succ d ih =>
    intro r k vm hr hk ht
    obtain ⟨k, rfl⟩ : ∃ j, k = j + 1 := ⟨k - 1, by omega⟩
    have hr2 : r < a.1 11 := by omega
    have g := hv.2.2.2.2.2.2.2.2.2.1 r hr2
    have m := hm.2.2.2.2.2.2.2.2.1 r hr2
    have e6 : bAll (sl_F a W sl) (r + 1) = (bAll (sl_F a W sl) r && (decide (W / 2 ^ r % 2 = 1) || sl_rl a sl r)) := rfl
    show ∃ vm', b_X12_isSo_4 N _ _ _ _ _ _ = _ ∧ _
    unfold b_X12_isSo_4
    rw [m_rules, bs, hm.2.2.2.2.1, if_neg (nI_nle2 (a := a.1 11) hr2 (by omega))]
    cases qb : bAll (sl_F a W sl) r
    · rw [iff0]
      have := bAll_f qb (d + 1)
      rw [hr] at this
      rw [this]
      exact ⟨vm, rfl, FrM.rf _⟩
    · rw [qb, Bool.true_and] at e6
      obtain ⟨vm1, o1, o2, o3⟩ := sl_op hv ht g.1 g.2.1
      obtain ⟨vm2, r1, r2⟩ := ih (r + 1) k vm1 (by omega) (by omega) (o3.sw ht)
      rw [e6] at r1
      have bh : f_X12_behind N vm1 w 0 = some (nI (aft a sl (2 ^ a.1 0 - 1) (a.2 12 r) (a.2 13 r) 5 0 0)) := bh_m hN hv hm o2 (o := 0) (by decide)
      have i1 : nI (40 + 3 * r) + 1 = nI (41 + 3 * r) := by rw [nI_1]; congr 1; omega
      have i2 : nI (40 + 3 * r) + 2 = nI (42 + 3 * r) := by rw [show (2 : Int32) = nI 2 from rfl, nI_add]; congr 1; omega
      rw [ift, at40, i1, i2, ck_in (n := 63) (by omega) (by decide), ck_in (n := 63) (by omega) (by decide), nI_clamp (n := 40 + 3 * r) (by omega), nI_clamp (n := 41 + 3 * r) (by omega), m.1, m.2.1, o1, bs, (fin_bit r (by omega) W hW).1, nI_1, bh, bs, ck_in (n := 63) (by omega) (by decide), nI_clamp (n := 42 + 3 * r) (by omega), m.2.2]
      refine ⟨vm2, ?_, o3.tr r2⟩
      rcases half2 W r with q | q
      · rw [q, if_neg (by decide)]
        rw [q, show decide (0 = 1) = false from rfl, Bool.false_or] at r1
        have hal : aft a sl (2 ^ a.1 0 - 1) (a.2 12 r) (a.2 13 r) 5 0 0 < 2 ^ a.1 0 := bsum_lt _ _
        have hal := lt32 h5 hal
        have hsl := lt32 h5 g.2.2
        by_cases c : aft a sl (2 ^ a.1 0 - 1) (a.2 12 r) (a.2 13 r) 5 0 0 = a.2 14 r
        · rw [if_pos (by rw [c])]
          rw [(aft_iff hv hr2).mp c] at r1
          exact r1
        · rw [if_neg (fun h => c ((nI_eq (by omega) (by omega)).mp h))]
          have : sl_rl a sl r = false := by
            cases qq : sl_rl a sl r
            · rfl
            · exact absurd ((aft_iff hv hr2).mpr qq) c
          rw [this] at r1
          exact r1
      · rw [q, if_pos (show nI 1 = 1 from rfl)]
        rw [q, show decide (1 = 1) = true from rfl, Bool.true_or] at r1
        exact r1
theorem im_x {N : Nat} (hN : 200000 ≤ N) {w : Nat → Int32} {a : AV} (hv : Valid a) (hm : RM w a) {W : Nat} (hW : W < 32) {sl : Nat → Nat} {vm : US} (ht : SlW vm a sl) : ∃ vm', f_X12_isSo N vm w (nI W) = some (sl_gd a W sl, vm') ∧ FrM vm vm' := by
  have h11 := hv.2.2.2.2.2.1
  exact im_l hN hv hm hW (a.1 11) 0 N vm (by omega) (by omega) ht
def FrK (vm vm' : US) : Prop := (∀ k, k < 8 ∨ 11 < k → vm'.1 k = vm.1 k) ∧ vm'.2.1 = vm.2.1 ∧ ∀ s, s ≠ 6 → vm'.2.2 s = vm.2.2 s
theorem FrK.rf (vm : US) : FrK vm vm := ⟨fun _ _ => rfl, rfl, fun _ _ => rfl⟩
theorem FrK.tr {x y z : US} (h : FrK x y) (g : FrK y z) : FrK x z := ⟨fun k hk => (g.1 k hk).trans (h.1 k hk), g.2.1.trans h.2.1, fun s hs => (g.2.2 s hs).trans (h.2.2 s hs)⟩
theorem FrK.sc {x y : US} (h : FrK x y) : ScrM x y := ⟨h.2.1, h.1 17 (by omega), h.2.2 1 (by decide), h.2.2 2 (by decide), h.2.2 3 (by decide), h.2.2 16 (by decide)⟩
theorem FrM.fk {x y : US} (h : FrM x y) : FrK x y := ⟨h.2, by rw [h.1], fun s _ => by rw [h.1]⟩
theorem fk_d {N : Nat} (hN : 200000 ≤ N) {g : US → (Nat → Int32) → Int32 → Int32 → Int32 → Option (Bool × US)} {w : Nat → Int32} {a : AV} (hv : Valid a) (hm : RM w a) {W : Nat} (hW : W < 32) {code : Nat} {y2 y3 : Int32} : ∀ k K vm l, k ≤ a.1 0 → k < K → l < 2 ^ 31 → (∀ j, j < k → od_d 10 k l j = od_d 10 (a.1 0) code j) → vm.1 7 = nI (2 ^ a.1 0 - 1) → (∀ j, k ≤ j → j < a.1 0 → vm.2.2 6 j = nI (od_d 10 (a.1 0) code j)) → ∃ vm', f_X12_findSlacks_49 N g K vm w (nI W) y2 y3 (nI l) (nI k - 1) = (if b2i (SG a W code) = 0 then g vm' w (nI W) y2 (y3 + 1) else some (true, vm')) ∧ FrK vm vm' ∧ (∀ j, j < a.1 0 → vm'.2.2 6 j = nI (od_d 10 (a.1 0) code j)) := by
  have h5 := hv.1
  intro k
  induction k with
  | zero =>
    intro K vm l hk hK hl e2 e7 e3
    obtain ⟨K, rfl⟩ : ∃ j, K = j + 1 := ⟨K - 1, by omega⟩
    obtain ⟨vm', q1, q2⟩ := im_x hN hv hm hW (sl := od_d 10 (a.1 0) code) (vm := vm) ⟨e7, fun t ht => ⟨e3 t (Nat.zero_le _) ht, od_9 _ _ _⟩⟩
    refine ⟨vm', ?_, q2.fk, fun j hj => by rw [q2.1]; exact e3 j (Nat.zero_le _) hj⟩
    show b_X12_findSlacks_49 N _ _ _ _ _ _ _ _ _ = _
    unfold b_X12_findSlacks_49
    rw [if_pos (by decide), q1, bs]
    rfl
  | succ k ih =>
    intro K vm l hk hK hl e2 e7 e3
    obtain ⟨K, rfl⟩ : ∃ j, K = j + 1 := ⟨K - 1, by omega⟩
    have hdl : l / 10 ≤ l := Nat.div_le_self _ _
    have e4 : od_d 10 (a.1 0) code k = l % 10 := by
      rw [← e2 k (by omega)]
      unfold od_d
      rw [show k + 1 - 1 - k = 0 by omega, Nat.pow_zero, Nat.div_one]
    obtain ⟨vm', q1, q2, q3⟩ := ih K (upa vm 6 k (nI (l % 10))) (l / 10) (by omega) (by omega) (by omega) (fun j hj => by
        rw [← e2 j (by omega)]
        unfold od_d
        rw [show k + 1 - 1 - j = (k - 1 - j) + 1 by omega, od_dd]) e7 (fun j h1 h2 => by
        show upd (vm.2.2 6) k _ j = _
        by_cases c : j = k
        · subst c; rw [pk_us, e4]
        · rw [pk_un c]; exact e3 j (by omega) h2)
    refine ⟨vm', ?_, FrK.tr (y := upa vm 6 k (nI (l % 10))) ⟨fun _ _ => rfl, rfl, fun s hs => if_neg hs⟩ q2, q3⟩
    show b_X12_findSlacks_49 N _ _ _ _ _ _ _ _ _ = _
    unfold b_X12_findSlacks_49
    rw [nI_pred, if_neg (nI_pos (by omega)), ck_in (by omega) (by decide), nI_clamp (by omega), show (10 : Int32) = nI 10 from rfl, pk_rem hl (by decide) (by decide), pk_div hl (by decide) (by decide), ← Int32.sub_eq_add_neg]
    exact q1
def FMs (a : AV) (W : Nat) (b : Bool) (vm : US) : Prop := (b = false ∧ ∀ m, 0 ≤ m → m < 10 ^ a.1 0 → SG a W m = false) ∨ (b = true ∧ ∃ m, 0 ≤ m ∧ m < 10 ^ a.1 0 ∧ SG a W m = true ∧ (∀ x, 0 ≤ x → x < m → SG a W x = false) ∧ ∀ i, i < a.1 0 → vm.2.2 6 i = nI (od_d 10 (a.1 0) m i))
theorem ten5 {n : Nat} (h : n ≤ 5) : 10 ^ n ≤ 100000 := by
  have : n = 0 ∨ n = 1 ∨ n = 2 ∨ n = 3 ∨ n = 4 ∨ n = 5 := by omega
  rcases this with rfl | rfl | rfl | rfl | rfl | rfl <;> decide
theorem fk_c {N : Nat} (hN : 200000 ≤ N) {w : Nat → Int32} {a : AV} (hv : Valid a) (hm : RM w a) {W : Nat} (hW : W < 32) : ∀ d m k vm, m + d = 10 ^ a.1 0 → d < k → vm.1 7 = nI (2 ^ a.1 0 - 1) → (∀ x, x < m → SG a W x = false) → ∃ b vm', f_X12_findSlacks_33 N k vm w (nI W) (nI (10 ^ a.1 0)) (nI m) = some (b, vm') ∧ FrK vm vm' ∧ FMs a W b vm' := by
  have h5 := hv.1
  have ht := ten5 h5
  intro d
  induction d with
  | zero =>
    intro m k vm hm1 hk e7 hno
    obtain ⟨k, rfl⟩ : ∃ j, k = j + 1 := ⟨k - 1, by omega⟩
    have : m = 10 ^ a.1 0 := by omega
    subst this
    refine ⟨false, vm, ?_, FrK.rf _, Or.inl ⟨rfl, fun x _ hx => hno x hx⟩⟩
    show b_X12_findSlacks_33 N _ _ _ _ _ _ = _
    unfold b_X12_findSlacks_33
    rw [if_pos (nI_le (Nat.le_refl _) (by omega))]
  | succ d ih =>
    intro m k vm hm1 hk e7 hno
    obtain ⟨k, rfl⟩ : ∃ j, k = j + 1 := ⟨k - 1, by omega⟩
    obtain ⟨vm1, q1, q2, q3⟩ := fk_d hN (g := f_X12_findSlacks_33 N k) hv hm hW (code := m) (y2 := nI (10 ^ a.1 0)) (y3 := nI m) (a.1 0) N vm m (Nat.le_refl _) (by omega) (by omega) (fun _ _ => rfl) e7 (fun j h1 h2 => by omega)
    show ∃ b vm', b_X12_findSlacks_33 N _ _ _ _ _ _ = _ ∧ _
    unfold b_X12_findSlacks_33
    rw [if_neg (nI_nle2 (a := 10 ^ a.1 0) (by omega) (by omega)), m_things, bs, hm.1, q1, nI_1]
    cases qs : SG a W m
    · rw [iff0]
      obtain ⟨b, vm', r1, r2, r3⟩ := ih (m + 1) k vm1 (by omega) (by omega) ((q2.1 7 (by omega)).trans e7) (fun x hx => by
        by_cases c : x = m
        · rw [c]; exact qs
        · exact hno x (by omega))
      exact ⟨b, vm', r1, q2.tr r2, r3⟩
    · rw [ift]
      exact ⟨true, vm1, rfl, q2, Or.inr ⟨rfl, m, Nat.zero_le _, by omega, qs, fun x _ hx => hno x hx, q3⟩⟩
theorem fk_m {N : Nat} {w : Nat → Int32} {a : AV} (hv : Valid a) (hm : RM w a) {y1 : Int32} {vm : US} : ∀ d k K, k + d = a.1 0 → d < K → f_X12_findSlacks_12 N K vm w y1 (nI (10 ^ k)) (nI k) = f_X12_findSlacks_33 N N vm w y1 (nI (10 ^ a.1 0)) 0 := by
  have h5 := hv.1
  intro d
  induction d with
  | zero =>
    intro k K hk hK
    obtain ⟨K, rfl⟩ : ∃ j, K = j + 1 := ⟨K - 1, by omega⟩
    have : k = a.1 0 := by omega
    subst this
    show b_X12_findSlacks_12 N _ _ _ _ _ _ = _
    unfold b_X12_findSlacks_12
    rw [m_things, bs, hm.1, if_pos (nI_le (Nat.le_refl _) (by omega))]
  | succ d ih =>
    intro k K hk hK
    obtain ⟨K, rfl⟩ : ∃ j, K = j + 1 := ⟨K - 1, by omega⟩
    show b_X12_findSlacks_12 N _ _ _ _ _ _ = _
    unfold b_X12_findSlacks_12
    rw [m_things, bs, hm.1, if_neg (nI_nle2 (a := a.1 0) (by omega) (by omega)), show (10 : Int32) = nI 10 from rfl, pk_mul, ← Nat.pow_succ, nI_1]
    exact ih (k + 1) K (by omega) (by omega)
theorem fk_x {N : Nat} (hN : 200000 ≤ N) {w : Nat → Int32} {a : AV} (hv : Valid a) (hm : RM w a) {W : Nat} (hW : W < 32) (vm : US) : ∃ b vm', f_X12_findSlacks N vm w (nI W) = some (b, vm') ∧ ScrM vm vm' ∧ FMs a W b vm' := by
  have h5 := hv.1
  have ht := ten5 h5
  obtain ⟨b, vm', q1, q2, q3⟩ := fk_c hN hv hm hW (10 ^ a.1 0) 0 N (upi vm 7 (nI (2 ^ a.1 0 - 1))) (by omega) (by omega) rfl (fun x hx => absurd hx (Nat.not_lt_zero x))
  have e1 : f_X12_findSlacks_12 N N (upi vm 7 (nI (2 ^ a.1 0 - 1))) w (nI W) 1 0 = _ := fk_m (N := N) hv hm (y1 := nI W) (vm := upi vm 7 (nI (2 ^ a.1 0 - 1))) (a.1 0) 0 N (by omega) (by omega)
  refine ⟨b, vm', ?_, ScrM.tr (b := upi vm 7 (nI (2 ^ a.1 0 - 1))) ⟨rfl, rfl, rfl, rfl, rfl, rfl⟩ q2.sc, q3⟩
  unfold f_X12_findSlacks f_X12_all
  rw [m_things, bs, bs, hm.1, alls h5, e1]
  exact q1
theorem fw_fm {a : AV} {W : Nat} {b c : Bool} {vs vm : US} (h : FW a W b vs) (g : FMs a W c vm) : b = c ∧ (b = true → ∀ i, i < a.1 0 → vs.2.2 8 i = vm.2.2 6 i) := by
  rcases h with ⟨rfl, h1⟩ | ⟨rfl, m, h0, h1, h2, h3, h4⟩
  · rcases g with ⟨rfl, g1⟩ | ⟨rfl, n, g0, g1, g2, g3, g4⟩
    · exact ⟨rfl, fun q => absurd q (by decide)⟩
    · rw [h1 n g0 g1] at g2
      exact absurd g2 (by decide)
  · rcases g with ⟨rfl, g1⟩ | ⟨rfl, n, g0, g1, g2, g3, g4⟩
    · rw [g1 m h0 h1] at h2
      exact absurd h2 (by decide)
    · refine ⟨rfl, fun _ i hi => ?_⟩
      have : m = n := by
        rcases Nat.lt_trichotomy m n with q | q | q
        · rw [g3 m h0 q] at h2; exact absurd h2 (by decide)
        · exact q
        · rw [h3 n g0 q] at g2; exact absurd g2 (by decide)
      subst this
      rw [h4 i hi, g4 i hi]
theorem sim_slack {N : Nat} (hN : 200000 ≤ N) {vob vn : US} {tx : Nat → Int32} {i0 i1 : Option US} {vm : US} {w : Nat → Int32} (hI : Inv vob vn tx i0 i1 vm w) (vse : US) (k0 : Int32) : ∃ rx rm, f_X11_slack N vob vn vse k0 = some rx ∧ f_X12_slack N vm w k0 = some rm ∧ rx.1 = rm.1 ∧ Inv rx.2.1 vn tx i0 i1 rm.2 w := by
  obtain ⟨a, hv, hx, hm⟩ := hI.1
  have h5 := hv.1
  unfold f_X11_slack f_X12_slack
  rw [ht_m (hx.1.trans hm.1.symm)]
  rcases ht_x h5 hx.1 k0 with ⟨g, t, ht, rfl⟩ | g
  · simp only [g, bs, ift]
    obtain ⟨vs1, l1, l2⟩ := le_x2 hN hv hx vse
    obtain ⟨b, vs2, x1, x2, x3⟩ := fw_x hN hv (W := 0) (by decide) l2
    obtain ⟨c, vm2, y1, y2, y3⟩ := fk_x hN hv hm (W := 0) (by decide) vm
    have x1 : f_X6_fitsWithout N vs1 0 = some (b, vs2) := x1
    have y1 : f_X12_findSlacks N vm w 0 = some (c, vm2) := y1
    obtain ⟨e1, e2⟩ := fw_fm x3 y3
    subst e1
    simp only [l1, x1, y1, bs]
    cases b
    · simp only [iff0]
      exact ⟨_, _, rfl, rfl, rfl, hI.scr y2⟩
    · simp only [ift]
      rw [ck_in (by omega) (by decide), ck_in (by omega) (by decide), nI_clamp (by omega)]
      refine ⟨_, _, rfl, rfl, ?_, hI.scr y2⟩
      exact e2 rfl t ht
  · simp only [g, bs, iff0]
    refine ⟨_, _, rfl, rfl, ?_, ?_⟩
    · rfl
    · exact hI.bad
theorem pc_full : ∀ R, R < 5 → ∀ W, W < 16 → W < 2 ^ R → pcd 5 (2 ^ R - 1) = pcd 5 W → W = 2 ^ R - 1 := by decide +kernel
theorem gu_l {N : Nat} (hN : 200000 ≤ N) {w : Nat → Int32} {a : AV} (hv : Valid a) (hm : RM w a) : ∀ d W k best vs vm, W + d = 2 ^ a.1 11 → d < k → XL vs a → (best = 2 ^ a.1 11 - 1 ∨ best < W) → ∃ r vs' vm', f_X6_fewestGivenUp_11 N k vs (nI best) (nI W) = some (r, vs') ∧ f_X12_giveUp_11 N k vm w (nI best) (nI W) = some (r, vm') ∧ ScrM vm vm' := by
  have h11 := hv.2.2.2.2.2.1
  have hp := pow_mono (a := a.1 11) (b := 4) h11
  have hp1 : 1 ≤ 2 ^ a.1 11 := Nat.one_le_two_pow
  intro d
  induction d with
  | zero =>
    intro W k best vs vm hW hk hL hb
    obtain ⟨k, rfl⟩ : ∃ j, k = j + 1 := ⟨k - 1, by omega⟩
    have : W = 2 ^ a.1 11 := by omega
    subst this
    refine ⟨nI best, vs, vm, ?_, ?_, ScrM.rf _⟩
    · show b_X6_fewestGivenUp_11 N _ _ _ _ = _
      unfold b_X6_fewestGivenUp_11
      rw [hL.2.1, shl1 (by omega), if_pos (nI_le (Nat.le_refl _) (by omega))]
    · show b_X12_giveUp_11 N _ _ _ _ _ = _
      unfold b_X12_giveUp_11
      rw [m_rules, bs, hm.2.2.2.2.1, shl1 (by omega), if_pos (nI_le (Nat.le_refl _) (by omega))]
  | succ d ih =>
    intro W k best vs vm hW hk hL hb
    obtain ⟨k, rfl⟩ : ∃ j, k = j + 1 := ⟨k - 1, by omega⟩
    have hW16 : W < 16 := by omega
    have hb16 : best < 16 := by omega
    have pb := pcd_le best (by omega)
    have pw := pcd_le W (by omega)
    obtain ⟨b, vs1, x1, x2, x3⟩ := fw_x hN hv (W := W) (by omega) hL
    have call : ∃ r vs' vm', b_X6_fewestGivenUp_36 N (f_X6_fewestGivenUp_11 N k) vs (nI best) (nI W) = some (r, vs') ∧ b_X12_giveUp_44 N (f_X12_giveUp_11 N k) vm w (nI best) (nI W) = some (r, vm') ∧ ScrM vm vm' := by
      obtain ⟨c, vm1, y1, y2, y3⟩ := fk_x hN hv hm (W := W) (by omega) vm
      obtain ⟨e1, -⟩ := fw_fm x3 y3
      subst e1
      unfold b_X6_fewestGivenUp_36 b_X6_fewestGivenUp_41 b_X12_giveUp_44
      rw [if_neg (by decide), x1, y1, bs, bs, nI_1]
      cases b
      · obtain ⟨r, vs', vm', r1, r2, r3⟩ := ih (W + 1) k best vs1 vm1 (by omega) (by omega) x2 (by omega)
        exact ⟨r, vs', vm', r1, r2, y2.tr r3⟩
      · obtain ⟨r, vs', vm', r1, r2, r3⟩ := ih (W + 1) k W vs1 vm1 (by omega) (by omega) x2 (by omega)
        exact ⟨r, vs', vm', r1, r2, y2.tr r3⟩
    have skip : ∃ r vs' vm', f_X6_fewestGivenUp_11 N k vs (nI best) (nI (W + 1)) = some (r, vs') ∧ f_X12_giveUp_11 N k vm w (nI best) (nI (W + 1)) = some (r, vm') ∧ ScrM vm vm' := ih (W + 1) k best vs vm (by omega) (by omega) hL (by omega)
    show ∃ r vs' vm', b_X6_fewestGivenUp_11 N _ _ _ _ = some (r, vs') ∧ b_X12_giveUp_11 N _ _ _ _ _ = some (r, vm') ∧ _
    unfold b_X6_fewestGivenUp_11 b_X12_giveUp_11
    rw [hL.2.1, m_rules, bs, hm.2.2.2.2.1, shl1 (by omega), if_neg (nI_nle2 (a := 2 ^ a.1 11) (by omega) (by omega)), if_neg (nI_nle2 (a := 2 ^ a.1 11) (by omega) (by omega)), bc_x W (by omega), bc_x best (by omega), bits_ms hN (by omega), bits_ms hN (by omega), bs, bs, bs, bs]
    by_cases c0 : W = 0
    · rw [if_pos (by rw [c0]; rfl)]
      by_cases cr : a.1 11 = 0
      · have eb : best = 0 := by rw [cr] at hb; omega
        rw [c0, eb, if_neg (by decide), if_pos (by decide), if_pos (by decide)]
        unfold b_X6_fewestGivenUp_36 b_X6_fewestGivenUp_41
        rw [c0] at x1
        rw [if_neg (by decide), x1, bs]
        obtain ⟨r, vs', vm', r1, r2, r3⟩ := ih 1 k 0 vs1 vm (by omega) (by omega) x2 (by omega)
        have r1 : f_X6_fewestGivenUp_11 N k vs1 (nI 0) (nI 0 + 1) = some (r, vs') := r1
        have r2 : f_X12_giveUp_11 N k vm w (nI 0) (nI 0 + 1) = some (r, vm') := r2
        rw [r1, r2]
        cases b
        · exact ⟨r, vs', vm', rfl, rfl, r3⟩
        · exact ⟨r, vs', vm', rfl, rfl, r3⟩
      · have eb : best = 2 ^ a.1 11 - 1 := by omega
        have hpc : ∀ R, R < 5 → R ≠ 0 → 0 < pcd 5 (2 ^ R - 1) := by decide +kernel
        have h1 := hpc (a.1 11) (by omega) cr
        rw [← eb] at h1
        have e0 : pcd 5 W = 0 := by rw [c0]; decide
        rw [e0, show nI (pcd 5 best) - nI 0 = nI (pcd 5 best) from by rw [pk_sub (Nat.zero_le _), Nat.sub_zero], if_pos (pos0 h1 (by omega))]
        exact call
    · rw [if_neg (nI_ne0 (Nat.pos_of_ne_zero c0) (by omega))]
      rcases Nat.lt_trichotomy (pcd 5 W) (pcd 5 best) with q | q | q
      · rw [if_neg (nI_nle2 q (by omega)), pk_sub (by omega), if_pos (pos0 (by omega) (by omega))]
        exact call
      · rw [if_pos (nI_le (by omega) (by omega)), pk_sub (by omega), q, Nat.sub_self, if_neg (by decide), if_pos (show nI 0 = 0 from rfl)]
        have hbw : best ≤ W := by
          rcases hb with e | e
          · have := pc_full (a.1 11) (by omega) W hW16 (by omega) (by rw [← e]; exact q.symm)
            omega
          · omega
        rw [if_pos (nI_le hbw (by omega)), nI_1]
        unfold b_X6_fewestGivenUp_41
        rw [if_pos rfl, nI_1]
        exact skip
      · have hneg := pk_sneg (a := pcd 5 best) (b := pcd 5 W) (by omega) q
        rw [if_pos (nI_le (by omega) (by omega)), if_neg (fun h => by
          rw [Int32.lt_iff_toInt_lt] at h hneg; omega), if_neg (fun h => by
          rw [h] at hneg; exact absurd hneg (by decide)), nI_1]
        unfold b_X6_fewestGivenUp_41
        rw [if_pos rfl, nI_1]
        exact skip
theorem sim_giveUp {N : Nat} (hN : 200000 ≤ N) {vob vn : US} {tx : Nat → Int32} {i0 i1 : Option US} {vm : US} {w : Nat → Int32} (hI : Inv vob vn tx i0 i1 vm w) (vse : US)  : ∃ rx rm, f_X11_giveUp N vob vn vse = some rx ∧ f_X12_giveUp N vm w = some rm ∧ rx.1 = rm.1 ∧ Inv vob vn tx i0 i1 rm.2 w := by
  obtain ⟨a, hv, hx, hm⟩ := hI.1
  have h11 := hv.2.2.2.2.2.1
  have hp := pow_mono (a := a.1 11) (b := 4) h11
  obtain ⟨vs1, l1, l2⟩ := le_x2 hN hv hx vse
  obtain ⟨r, vs2, vm2, r1, r2, r3⟩ := gu_l hN hv hm (2 ^ a.1 11) 0 N (2 ^ a.1 11 - 1) vs1 vm (by omega) (by omega) l2 (Or.inl rfl)
  have r1 : f_X6_fewestGivenUp_11 N N vs1 (nI (2 ^ a.1 11 - 1)) 0 = some (r, vs2) := r1
  have r2 : f_X12_giveUp_11 N N vm w (nI (2 ^ a.1 11 - 1)) 0 = some (r, vm2) := r2
  unfold f_X11_giveUp f_X12_giveUp f_X6_fewestGivenUp
  rw [l1, bs, l2.2.1, alls (by omega), r1, bs, m_rules, bs, hm.2.2.2.2.1, alls (by omega), r2]
  exact ⟨_, _, rfl, rfl, rfl, hI.scr r3⟩
