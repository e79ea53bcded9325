/-! slacks: pairs narrowed, slacks struck out, rows searched -/
def sl_np (a : AV) (r t i j x : Nat) : Bool := (!(decide (a.2 12 r = i) && decide (j < t)) || sl_so a r j x) && (!(decide (a.2 12 r = j) && decide (i < t)) || sl_so a r i x)
theorem sl_b1 : ∀ A B C S : Bool, (!(A && (B || C)) || S) = ((!(A && B) || S) && (!(A && C) || S)) := by decide
theorem sl_b2 : ∀ x y z u : Bool, ((x && y) && (z && u)) = ((x && z) && (y && u)) := by decide
theorem sl_lt (j t : Nat) : decide (j < t + 1) = (decide (j < t) || decide (j = t)) := by
  rw [← Bool.decide_or]
  exact decide_eq_decide.mpr (by omega)
def sl_ex (a : AV) (r t i j x : Nat) : Bool := (!(decide (a.2 12 r = i) && decide (j = t)) || sl_so a r j x) && (!(decide (a.2 12 r = j) && decide (i = t)) || sl_so a r i x)
theorem sl_np1 (a : AV) (r t i j x : Nat) : sl_np a r (t + 1) i j x = (sl_np a r t i j x && sl_ex a r t i j x) := by
  unfold sl_np sl_ex
  rw [sl_lt, sl_lt, sl_b1, sl_b1, sl_b2]
theorem sl_exT {a : AV} {r t i j : Nat} (h1 : ¬ (a.2 12 r = i ∧ j = t)) (h2 : ¬ (a.2 12 r = j ∧ i = t)) (x : Nat) : sl_ex a r t i j x = true := by
  unfold sl_ex
  rw [← Bool.decide_and, ← Bool.decide_and, decide_eq_false h1, decide_eq_false h2]
  rfl
def XP (vs : US) (a : AV) (f : Nat → Nat → Nat → Bool) : Prop := ∀ i j, i < a.1 0 → j < a.1 0 → i ≠ j → vs.2.2 6 (i * 5 + j) = nI (bsum (f i j) 19)
def FrL (vs vs' : US) : Prop := vs'.1 = vs.1 ∧ ∀ s, s < 6 → vs'.2.2 s = vs.2.2 s
theorem FrL.rf (x : US) : FrL x x := ⟨rfl, fun _ _ => rfl⟩
theorem FrL.tr {x y z : US} (h : FrL x y) (g : FrL y z) : FrL x z := ⟨g.1.trans h.1, fun s hs => (g.2 s hs).trans (h.2 s hs)⟩
theorem FrL.xl {x y : US} (h : FrL x y) {a : AV} (g : XL x a) : XL y a := by
  unfold XL XLr at g ⊢
  rw [h.1, h.2 3 (by decide), h.2 4 (by decide), h.2 5 (by decide)]
  exact g
theorem np_x {N : Nat} {a : AV} (hv : Valid a) {f : Nat → Nat → Nat → Bool} {r : Nat} (hr : r < a.1 11) : ∀ d t k vs, t + d = a.1 0 → d < k → XL vs a → XP vs a (fun i j x => f i j x && sl_np a r t i j x) → ∃ vs', f_X6_narrowPairs_9 N k vs (nI r) (nI (a.2 12 r)) (nI t) = some vs' ∧ FrL vs vs' ∧ XP vs' a (fun i j x => f i j x && sl_np a r (a.1 0) i j x) := by
  have h5 := hv.1
  have h11 := hv.2.2.2.2.2.1
  have hp := (hv.2.2.2.2.2.2.2.2.2.1 r hr).1
  intro d
  induction d with
  | zero =>
    intro t k vs ht hk hL hP
    obtain ⟨k, rfl⟩ : ∃ j, k = j + 1 := ⟨k - 1, by omega⟩
    have : t = a.1 0 := by omega
    subst this
    refine ⟨vs, ?_, FrL.rf _, hP⟩
    show b_X6_narrowPairs_9 N _ _ _ _ _ = _
    unfold b_X6_narrowPairs_9
    rw [hL.1, if_pos (nI_le (Nat.le_refl _) (by omega))]
  | succ d ih =>
    intro t k vs ht hk hL hP
    obtain ⟨k, rfl⟩ : ∃ j, k = j + 1 := ⟨k - 1, by omega⟩
    have ht2 : t < a.1 0 := by omega
    show ∃ vs', b_X6_narrowPairs_9 N _ _ _ _ _ = _ ∧ _
    unfold b_X6_narrowPairs_9
    rw [hL.1, if_neg (nI_nle2 (a := a.1 0) ht2 (by omega))]
    by_cases c : t = a.2 12 r
    · rw [if_pos (by rw [c]), nI_1]
      refine ih (t + 1) k vs (by omega) (by omega) hL (fun i j hi hj hij => ?_)
      rw [hP i j hi hj hij]
      congr 1
      refine bsum_cg 19 (fun x _ => ?_)
      show (f i j x && sl_np a r t i j x) = (f i j x && sl_np a r (t + 1) i j x)
      rw [sl_np1, sl_exT (by omega) (by omega), Bool.and_true]
    · have ec : r * 5 + t < 20 := by omega
      have e2 : vs.2.2 5 (r * 5 + t) = nI (bsum (sl_so a r t) 19) := (hL.2.2 r hr).2.2 t ht2
      rw [if_neg (fun q => c ((nI_eq (by omega) (by omega)).mp q)), ix5, ix5, ix5, ck_in (n := 20) (by omega) (by decide), ck_in (n := 25) (by omega) (by decide), ck_in (n := 25) (by omega) (by decide), ck_in (n := 25) (by omega) (by decide), bnd_eq, ck_in (n := 25) (by omega) (by decide), nI_clamp (n := r * 5 + t) (by omega), nI_clamp (n := a.2 12 r * 5 + t) (by omega), nI_clamp (n := t * 5 + a.2 12 r) (by omega), e2, pk_un (by omega), hP _ _ hp ht2 (fun e => c e.symm), hP _ _ ht2 hp c, bs_and, bs_and, nI_1]
      obtain ⟨vs', q1, q2, q3⟩ := ih (t + 1) k (upa (upa vs 6 (a.2 12 r * 5 + t) (nI (bsum (fun x => (f (a.2 12 r) t x && sl_np a r t (a.2 12 r) t x) && sl_so a r t x) 19))) 6 (t * 5 + a.2 12 r) (nI (bsum (fun x => (f t (a.2 12 r) x && sl_np a r t t (a.2 12 r) x) && sl_so a r t x) 19))) (by omega) (by omega) hL (fun i j hi hj hij => by
        show upd (upd (vs.2.2 6) (a.2 12 r * 5 + t) _) (t * 5 + a.2 12 r) _ (i * 5 + j) = _
        by_cases c1 : i = t ∧ j = a.2 12 r
        · obtain ⟨rfl, rfl⟩ := c1
          rw [pk_us]
          congr 1
          refine bsum_cg 19 (fun x _ => ?_)
          show _ = (f i (a.2 12 r) x && sl_np a r (i + 1) i (a.2 12 r) x)
          rw [sl_np1, Bool.and_assoc]
          congr 2
          unfold sl_ex
          rw [decide_eq_true (rfl : a.2 12 r = a.2 12 r), decide_eq_true (rfl : i = i), decide_eq_false (fun e => hij e.symm)]
          rfl
        · rw [pk_un (by omega)]
          by_cases c2 : i = a.2 12 r ∧ j = t
          · obtain ⟨rfl, rfl⟩ := c2
            rw [pk_us]
            congr 1
            refine bsum_cg 19 (fun x _ => ?_)
            show _ = (f (a.2 12 r) j x && sl_np a r (j + 1) (a.2 12 r) j x)
            rw [sl_np1, Bool.and_assoc]
            congr 2
            unfold sl_ex
            rw [decide_eq_true (rfl : a.2 12 r = a.2 12 r), decide_eq_true (rfl : j = j), decide_eq_false hij]
            simp
          · rw [pk_un (by omega), hP i j hi hj hij]
            congr 1
            refine bsum_cg 19 (fun x _ => ?_)
            show (f i j x && sl_np a r t i j x) = (f i j x && sl_np a r (t + 1) i j x)
            rw [sl_np1, sl_exT (by omega) (by omega), Bool.and_true])
      exact ⟨vs', q1, FrL.tr (y := upa (upa vs 6 (a.2 12 r * 5 + t) (nI (bsum (fun x => (f (a.2 12 r) t x && sl_np a r t (a.2 12 r) t x) && sl_so a r t x) 19))) 6 (t * 5 + a.2 12 r) (nI (bsum (fun x => (f t (a.2 12 r) x && sl_np a r t t (a.2 12 r) x) && sl_so a r t x) 19))) ⟨rfl, fun s hs => (if_neg (by omega)).trans (if_neg (by omega))⟩ q2, q3⟩
theorem na_x {N : Nat} (hN : 200000 ≤ N) {a : AV} (hv : Valid a) {W r : Nat} {vs : US} (hr : r < a.1 11) (hW : W / 2 ^ r % 2 = 0) (hL : XL vs a) (hP : XP vs a (sl_pr a W r)) : ∃ vs', f_X6_narrowPairs N vs (nI r) = some vs' ∧ FrL vs vs' ∧ XP vs' a (sl_pr a W (r + 1)) := by
  have h5 := hv.1
  have h11 := hv.2.2.2.2.2.1
  obtain ⟨vs', q1, q2, q3⟩ := np_x (N := N) hv (f := sl_pr a W r) hr (a.1 0) 0 N vs (by omega) (by omega) hL (fun i j hi hj hij => by
    rw [hP i j hi hj hij]
    congr 1
    refine bsum_cg 19 (fun x _ => ?_)
    show _ = (sl_pr a W r i j x && sl_np a r 0 i j x)
    unfold sl_np
    rw [decide_eq_false (Nat.not_lt_zero j), decide_eq_false (Nat.not_lt_zero i)]
    simp)
  have q1 : f_X6_narrowPairs_9 N N vs (nI r) (nI (a.2 12 r)) 0 = some vs' := q1
  refine ⟨vs', ?_, q2, fun i j hi hj hij => ?_⟩
  · unfold f_X6_narrowPairs
    rw [ck_in (by omega) (by decide), nI_clamp (by omega), (hL.2.2 r hr).1]
    exact q1
  · rw [q3 i j hi hj hij]
    congr 1
    refine bsum_cg 19 (fun x _ => ?_)
    show (sl_pr a W r i j x && sl_np a r (a.1 0) i j x) = _
    rw [sl_pr1, hW]
    unfold sl_np sl_pq
    rw [decide_eq_true hi, decide_eq_true hj]
    simp
/-- slacks struck out -/
def SN (a : AV) (W : Nat) (LM : Nat → Nat) : Prop := ∀ sl : Nat → Nat, (∀ t, t < a.1 0 → sl t ≤ 9) → sl_gd a W sl = true → ∀ t, t < a.1 0 → (LM t).testBit (sl t) = true
def XM (vs : US) (a : AV) (LM : Nat → Nat) : Prop := ∀ t, t < a.1 0 → vs.2.2 7 t = nI (LM t) ∧ LM t < 1024
def NoS (a : AV) (W : Nat) : Prop := ∀ sl : Nat → Nat, (∀ t, t < a.1 0 → sl t ≤ 9) → sl_gd a W sl = false
theorem fb_s {N : Nat} {g : US → Int32 → Int32 → Int32 → Option Int32} {a : AV} (hv : Valid a) {W : Nat} {LM : Nat → Nat} {vs : US} (hM : XM vs a LM) (hS : SN a W LM) {i j : Nat} (hi : i < a.1 0) (hj : j < a.1 0) (hij : i ≠ j) : ∀ d s k M, s + d = 10 → d < k → M < 1024 → (∀ sl : Nat → Nat, (∀ t, t < a.1 0 → sl t ≤ 9) → sl_gd a W sl = true → M.testBit (sl i) = true) → ∃ M', f_X6_fittedBySome_40 N g k vs (nI i) (nI M) (nI j) (nI (bsum (sl_pr a W (a.1 11) i j) 19)) (nI s) = g vs (nI i) (nI M') (nI (j + 1)) ∧ M' < 1024 ∧ (∀ sl : Nat → Nat, (∀ t, t < a.1 0 → sl t ≤ 9) → sl_gd a W sl = true → M'.testBit (sl i) = true) := by
  have h5 := hv.1
  intro d
  induction d with
  | zero =>
    intro s k M hs hk h1 h2
    obtain ⟨k, rfl⟩ : ∃ j, k = j + 1 := ⟨k - 1, by omega⟩
    have : s = 10 := by omega
    subst this
    refine ⟨M, ?_, h1, h2⟩
    show b_X6_fittedBySome_40 N _ _ _ _ _ _ _ _ = _
    unfold b_X6_fittedBySome_40
    rw [if_pos (by decide), nI_1]
  | succ d ih =>
    intro s k M hs hk h1 h2
    obtain ⟨k, rfl⟩ : ∃ j, k = j + 1 := ⟨k - 1, by omega⟩
    have hm := hM j hj
    have hb := bs_lt (sl_pr a W (a.1 11) i j)
    have hd := Nat.div_le_self (bsum (sl_pr a W (a.1 11) i j) 19) (2 ^ s)
    have ha : bsum (sl_pr a W (a.1 11) i j) 19 / 2 ^ s &&& LM j ≤ LM j := Nat.and_le_right
    show ∃ M', b_X6_fittedBySome_40 N _ _ _ _ _ _ _ _ = _ ∧ _
    unfold b_X6_fittedBySome_40
    rw [if_neg (show ¬ (9 : Int32) < nI s from nI_nlt (a := 9) (by omega) (by decide)), ck_in (by omega) (by decide), nI_clamp (by omega), hm.1, bw_shr hb (by omega), bw_and (by omega) (by omega), nI_1]
    by_cases c : bsum (sl_pr a W (a.1 11) i j) 19 / 2 ^ s &&& LM j = 0
    · rw [if_pos (by rw [c]; rfl), bw_clr s (by omega) M h1]
      refine ih (s + 1) k _ (by omega) (by omega) (Nat.lt_of_le_of_lt Nat.and_le_left h1) (fun sl h3 h4 => ?_)
      rw [Nat.testBit_and, h2 sl h3 h4, Bool.true_and]
      have l1 := h3 i hi
      have l2 := h3 j hj
      refine bw_clt s (by omega) (sl i) (by omega) (fun e => ?_)
      have t1 := congrArg (fun n => Nat.testBit n (sl j)) c
      have t1 : (bsum (sl_pr a W (a.1 11) i j) 19 / 2 ^ s &&& LM j).testBit (sl j) = Nat.testBit 0 (sl j) := t1
      rw [Nat.testBit_and, Nat.testBit_div_two_pow, bsum_tb, hS sl h3 h4 j hj, Nat.zero_testBit, ← e, Nat.add_comm (sl j), ((sl_iff hv W sl).mp h4).2 i j hi hj hij, decide_eq_true (by omega)] at t1
      exact absurd t1 (by decide)
    · rw [if_neg (nI_ne0 (Nat.pos_of_ne_zero c) (by omega))]
      exact ih (s + 1) k M (by omega) (by omega) h1 h2
theorem fb_o {N : Nat} (hN : 200000 ≤ N) {a : AV} (hv : Valid a) {W : Nat} {LM : Nat → Nat} {vs : US} (h1 : vs.1 1 = nI (a.1 0)) (hP : XP vs a (sl_pr a W (a.1 11))) (hM : XM vs a LM) (hS : SN a W LM) {i : Nat} (hi : i < a.1 0) : ∀ d j k M, j + d = a.1 0 → d < k → M < 1024 → (∀ sl : Nat → Nat, (∀ t, t < a.1 0 → sl t ≤ 9) → sl_gd a W sl = true → M.testBit (sl i) = true) → ∃ M', f_X6_fittedBySome_9 N k vs (nI i) (nI M) (nI j) = some (nI M') ∧ M' < 1024 ∧ (∀ sl : Nat → Nat, (∀ t, t < a.1 0 → sl t ≤ 9) → sl_gd a W sl = true → M'.testBit (sl i) = true) := by
  have h5 := hv.1
  intro d
  induction d with
  | zero =>
    intro j k M hj hk h2 h3
    obtain ⟨k, rfl⟩ : ∃ j, k = j + 1 := ⟨k - 1, by omega⟩
    have : j = a.1 0 := by omega
    subst this
    refine ⟨M, ?_, h2, h3⟩
    show b_X6_fittedBySome_9 N _ _ _ _ _ = _
    unfold b_X6_fittedBySome_9
    rw [h1, if_pos (nI_le (Nat.le_refl _) (by omega))]
  | succ d ih =>
    intro j k M hj hk h2 h3
    obtain ⟨k, rfl⟩ : ∃ j, k = j + 1 := ⟨k - 1, by omega⟩
    have hj2 : j < a.1 0 := by omega
    show ∃ M', b_X6_fittedBySome_9 N _ _ _ _ _ = _ ∧ _
    unfold b_X6_fittedBySome_9
    rw [h1, if_neg (nI_nle2 (a := a.1 0) hj2 (by omega))]
    by_cases c : j = i
    · rw [if_pos (by rw [c]), nI_1]
      exact ih (j + 1) k M (by omega) (by omega) h2 h3
    · rw [if_neg (fun q => c ((nI_eq (by omega) (by omega)).mp q)), ix5, ck_in (by omega) (by decide), nI_clamp (by omega), hP i j hi hj2 (fun e => c e.symm)]
      obtain ⟨M', r1, r2, r3⟩ := fb_s (N := N) (g := f_X6_fittedBySome_9 N k) hv hM hS hi hj2 (fun e => c e.symm) 10 0 N M (by omega) (by omega) h2 h3
      have r1 : f_X6_fittedBySome_40 N (f_X6_fittedBySome_9 N k) N vs (nI i) (nI M) (nI j) (nI (bsum (sl_pr a W (a.1 11) i j) 19)) 0 = _ := r1
      rw [r1]
      exact ih (j + 1) k M' (by omega) (by omega) r2 r3
theorem fb_x {N : Nat} (hN : 200000 ≤ N) {a : AV} (hv : Valid a) {W : Nat} {LM : Nat → Nat} {vs : US} (h1 : vs.1 1 = nI (a.1 0)) (hP : XP vs a (sl_pr a W (a.1 11))) (hM : XM vs a LM) (hS : SN a W LM) {i : Nat} (hi : i < a.1 0) : ∃ M', f_X6_fittedBySome N vs (nI i) = some (nI M') ∧ M' < 1024 ∧ (∀ sl : Nat → Nat, (∀ t, t < a.1 0 → sl t ≤ 9) → sl_gd a W sl = true → M'.testBit (sl i) = true) := by
  have h5 := hv.1
  unfold f_X6_fittedBySome
  rw [ck_in (by omega) (by decide), nI_clamp (by omega), (hM i hi).1]
  exact fb_o hN hv h1 hP hM hS hi (a.1 0) 0 N (LM i) (by omega) (by omega) (hM i hi).2 (fun sl h3 h4 => hS sl h3 h4 i hi)
def FrS (vs vs' : US) : Prop := vs'.1 = vs.1 ∧ ∀ s, s < 7 → vs'.2.2 s = vs.2.2 s
theorem FrS.rf (x : US) : FrS x x := ⟨rfl, fun _ _ => rfl⟩
theorem FrS.tr {x y z : US} (h : FrS x y) (g : FrS y z) : FrS x z := ⟨g.1.trans h.1, fun s hs => (g.2 s hs).trans (h.2 s hs)⟩
theorem FrS.fl {x y : US} (h : FrS x y) : FrL x y := ⟨h.1, fun s hs => h.2 s (by omega)⟩
theorem FrS.xp {x y : US} (h : FrS x y) {a : AV} {f : Nat → Nat → Nat → Bool} (g : XP x a f) : XP y a f := by
  unfold XP at g ⊢
  rw [h.2 6 (by decide)]
  exact g
theorem so_t {N : Nat} (hN : 200000 ≤ N) {g4 : US → Int32 → Int32 → Option (Bool × US)} {a : AV} (hv : Valid a) {W : Nat} {y2 : Int32} : ∀ d t k vs LM y1, t + d = a.1 0 → d < k → vs.1 1 = nI (a.1 0) → XP vs a (sl_pr a W (a.1 11)) → XM vs a LM → SN a W LM → ∃ vs', FrS vs vs' ∧ ((f_X6_strikesOut_18 N g4 k vs y1 y2 (nI t) = some (false, vs') ∧ NoS a W) ∨ (∃ LM' y1', f_X6_strikesOut_18 N g4 k vs y1 y2 (nI t) = g4 vs' y1' (y2 + 1) ∧ XM vs' a LM' ∧ SN a W LM')) := by
  have h5 := hv.1
  intro d
  induction d with
  | zero =>
    intro t k vs LM y1 ht hk h1 hP hM hS
    obtain ⟨k, rfl⟩ : ∃ j, k = j + 1 := ⟨k - 1, by omega⟩
    have : t = a.1 0 := by omega
    subst this
    refine ⟨vs, FrS.rf _, Or.inr ⟨LM, y1, ?_, hM, hS⟩⟩
    show b_X6_strikesOut_18 N _ _ _ _ _ _ = _
    unfold b_X6_strikesOut_18
    rw [h1, if_pos (nI_le (Nat.le_refl _) (by omega))]
  | succ d ih =>
    intro t k vs LM y1 ht hk h1 hP hM hS
    obtain ⟨k, rfl⟩ : ∃ j, k = j + 1 := ⟨k - 1, by omega⟩
    have ht2 : t < a.1 0 := by omega
    obtain ⟨M, r1, r2, r3⟩ := fb_x hN hv h1 hP hM hS ht2
    by_cases c : M = 0
    · refine ⟨vs, FrS.rf _, Or.inl ⟨?_, fun sl h3 => ?_⟩⟩
      · show b_X6_strikesOut_18 N _ _ _ _ _ _ = _
        unfold b_X6_strikesOut_18
        rw [h1, if_neg (nI_nle2 (a := a.1 0) ht2 (by omega)), r1, bs, if_pos (by rw [c]; rfl)]
      · cases q : sl_gd a W sl
        · rfl
        · have := r3 sl h3 q
          rw [c, Nat.zero_testBit] at this
          exact absurd this (by decide)
    · have e60 : ∀ s0, b_X6_strikesOut_60 N g4 (f_X6_strikesOut_18 N g4 k) vs y2 (nI t) (nI M) s0 = f_X6_strikesOut_18 N g4 k (upa vs 7 t (nI M)) s0 y2 (nI (t + 1)) := by
        intro s0
        unfold b_X6_strikesOut_60
        rw [ck_in (by omega) (by decide), nI_clamp (by omega), nI_1]
      have ee : ∃ s0, f_X6_strikesOut_18 N g4 (k + 1) vs y1 y2 (nI t) = f_X6_strikesOut_18 N g4 k (upa vs 7 t (nI M)) s0 y2 (nI (t + 1)) := by
        show ∃ s0, b_X6_strikesOut_18 N _ _ _ _ _ _ = _
        unfold b_X6_strikesOut_18 b_X6_strikesOut_55
        rw [h1, if_neg (nI_nle2 (a := a.1 0) ht2 (by omega)), r1, bs, if_neg (nI_ne0 (Nat.pos_of_ne_zero c) (by omega)), e60, e60, ck_in (by omega) (by decide)]
        by_cases c1 : y1 = 0
        · rw [if_pos c1]
          by_cases c2 : nI M = vs.2.2 7 (nI t).toNatClampNeg
          · rw [if_pos c2]; exact ⟨_, rfl⟩
          · rw [if_neg c2]; exact ⟨_, rfl⟩
        · rw [if_neg c1]; exact ⟨_, rfl⟩
      obtain ⟨s0, ee⟩ := ee
      rw [ee]
      obtain ⟨vs', q1, q2⟩ := ih (t + 1) k (upa vs 7 t (nI M)) (updN LM t M) s0 (by omega) (by omega) h1 hP (fun x hx => by
        show upd (vs.2.2 7) t _ x = nI (updN LM t M x) ∧ updN LM t M x < 1024
        by_cases cx : x = t
        · rw [cx, pk_us, show updN LM t M t = M from if_pos rfl]; exact ⟨rfl, r2⟩
        · rw [pk_un cx, show updN LM t M x = LM x from if_neg cx]; exact hM x hx) (fun sl h3 h4 x hx => by
        by_cases cx : x = t
        · rw [cx, show updN LM t M t = M from if_pos rfl]; exact r3 sl h3 h4
        · rw [show updN LM t M x = LM x from if_neg cx]; exact hS sl h3 h4 x hx)
      exact ⟨vs', FrS.tr (y := upa vs 7 t (nI M)) ⟨rfl, fun s hs => if_neg (by omega)⟩ q1, q2⟩
theorem so_w {N : Nat} (hN : 200000 ≤ N) {a : AV} (hv : Valid a) {W : Nat} : ∀ d y k vs LM y1, y + d = 51 → d < k → vs.1 1 = nI (a.1 0) → XP vs a (sl_pr a W (a.1 11)) → XM vs a LM → SN a W LM → ∃ b vs', f_X6_strikesOut_4 N k vs y1 (nI y) = some (b, vs') ∧ FrS vs vs' ∧ ((b = false ∧ NoS a W) ∨ (b = true ∧ ∃ LM', XM vs' a LM' ∧ SN a W LM')) := by
  have h5 := hv.1
  intro d
  induction d with
  | zero =>
    intro y k vs LM y1 hy hk h1 hP hM hS
    obtain ⟨k, rfl⟩ : ∃ j, k = j + 1 := ⟨k - 1, by omega⟩
    have : y = 51 := by omega
    subst this
    refine ⟨true, vs, ?_, FrS.rf _, Or.inr ⟨rfl, LM, hM, hS⟩⟩
    show b_X6_strikesOut_4 N _ _ _ _ = _
    unfold b_X6_strikesOut_4
    rw [if_pos (by decide)]
  | succ d ih =>
    intro y k vs LM y1 hy hk h1 hP hM hS
    obtain ⟨k, rfl⟩ : ∃ j, k = j + 1 := ⟨k - 1, by omega⟩
    show ∃ b vs', b_X6_strikesOut_4 N _ _ _ _ = _ ∧ _
    unfold b_X6_strikesOut_4
    rw [if_neg (show ¬ (51 : Int32) ≤ nI y from nI_nle2 (a := 51) (by omega) (by decide))]
    by_cases c : y1 = 0
    · rw [if_pos c]
      exact ⟨true, vs, rfl, FrS.rf _, Or.inr ⟨rfl, LM, hM, hS⟩⟩
    · rw [if_neg c]
      obtain ⟨vs1, q1, q2⟩ := so_t hN (g4 := f_X6_strikesOut_4 N k) hv (W := W) (y2 := nI y) (a.1 0) 0 N vs LM 0 (by omega) (by omega) h1 hP hM hS
      rcases q2 with ⟨p1, p2⟩ | ⟨LM1, y3, p1, p2, p3⟩
      · exact ⟨false, vs1, p1, q1, Or.inl ⟨rfl, p2⟩⟩
      · have p1 : f_X6_strikesOut_18 N (f_X6_strikesOut_4 N k) N vs 0 (nI y) 0 = _ := p1
        rw [p1, nI_1]
        obtain ⟨b, vs', s1, s2, s3⟩ := ih (y + 1) k vs1 LM1 y3 (by omega) (by omega) (by rw [q1.1]; exact h1) (q1.xp hP) p2 p3
        exact ⟨b, vs', s1, q1.tr s2, s3⟩
