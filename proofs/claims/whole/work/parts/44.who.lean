/-! which errands were done -/
def run (a : AV) (wh W : Nat) : Nat → Nat
  | 0 => a.1 7
  | e + 1 => if W / 2 ^ e % 2 = 1 then act a wh e (run a wh W e) else run a wh W e
theorem act_lt (a : AV) (wh e o : Nat) : act a wh e o < 2 ^ a.1 0 := bsum_lt _ _
theorem run_lt {a : AV} (hv : Valid a) (wh W : Nat) : ∀ i, run a wh W i < 2 ^ a.1 0 := by
  intro i
  induction i with
  | zero => exact hv.2.2.2.1
  | succ i ih =>
    show (if W / 2 ^ i % 2 = 1 then act a wh i (run a wh W i) else run a wh W i) < _
    split
    · exact act_lt _ _ _ _
    · exact ih
theorem run_cg {a : AV} {wh W V : Nat} : ∀ i, (∀ j, j < i → W / 2 ^ j % 2 = V / 2 ^ j % 2) → run a wh W i = run a wh V i := by
  intro i
  induction i with
  | zero => intro _; rfl
  | succ i ih =>
    intro h
    show (if W / 2 ^ i % 2 = 1 then act a wh i (run a wh W i) else run a wh W i) = (if V / 2 ^ i % 2 = 1 then act a wh i (run a wh V i) else run a wh V i)
    rw [h i (by omega), ih (fun j hj => h j (by omega))]
theorem run_hi {a : AV} {wh W i : Nat} (h : W < 2 ^ i) : run a wh W (i + 1) = run a wh W i := by
  show (if W / 2 ^ i % 2 = 1 then _ else _) = _
  rw [Nat.div_eq_of_lt h, if_neg (by decide)]
theorem bits_up : ∀ i, i < 5 → ∀ l, l < 32 → l < 2 ^ i → ((l + 2 ^ i) / 2 ^ i % 2 = 1 ∧ ∀ j, j < 5 → (j < i → (l + 2 ^ i) / 2 ^ j % 2 = l / 2 ^ j % 2)) := by decide +kernel
theorem bh_d {vd : US} {a : AV} (hv : Valid a) {wh e o : Nat} (hd : DayE vd a wh e) (he : e < a.1 8) (ho : o < 2 ^ a.1 0) : f_X0_behind vd (nI e) (nI o) = some (nI (act a wh e o)) := by
  have h8 := hv.2.2.2.2.1
  unfold f_X0_behind
  rw [ck_in (by omega) (by decide), ck_in (by omega) (by decide), nI_clamp (by omega), hd.1 o ho]
theorem en_i {N : Nat} {g : US → US → US → Int32 → Option (US × US)} {v : US} {a : AV} (hv : Valid a) {wh i : Nat} (hi : i < a.1 8) : ∀ d l k vd sw, l + d = 2 ^ i → d < k → DayF vd a wh → (∀ W, W < 2 ^ i → vd.2.2 12 W = nI (run a wh W i)) → (∀ W, W < l → vd.2.2 12 (W + 2 ^ i) = nI (run a wh (W + 2 ^ i) (i + 1))) → ∃ vd', f_X0_findEnds_31 N g k vd v sw (nI i) (nI l) = g vd' v sw (nI (i + 1)) ∧ DayF vd' a wh ∧ (∀ W, W < 2 ^ (i + 1) → vd'.2.2 12 W = nI (run a wh W (i + 1))) := by
  have h8 := hv.2.2.2.2.1
  have hp := pow5 (n := i) (by omega)
  have hp2 := pow_mono (a := i + 1) (b := 5) (by omega)
  rw [Nat.pow_succ] at hp2
  intro d
  induction d with
  | zero =>
    intro l k vd sw hl hk hd h1 h2
    obtain ⟨k, rfl⟩ : ∃ j, k = j + 1 := ⟨k - 1, by omega⟩
    have : l = 2 ^ i := by omega
    subst this
    refine ⟨vd, ?_, hd, fun W hW => ?_⟩
    · show b_X0_findEnds_31 N _ _ _ _ _ _ _ = _
      unfold b_X0_findEnds_31
      rw [shl1 (by omega), if_pos (nI_le (Nat.le_refl _) (by omega)), nI_1]
    · by_cases c : W < 2 ^ i
      · rw [run_hi c]; exact h1 W c
      · have := h2 (W - 2 ^ i) (by rw [Nat.pow_succ] at hW; omega)
        rw [show W - 2 ^ i + 2 ^ i = W by omega] at this
        exact this
  | succ d ih =>
    intro l k vd sw hl hk hd h1 h2
    obtain ⟨k, rfl⟩ : ∃ j, k = j + 1 := ⟨k - 1, by omega⟩
    have hl2 : l < 2 ^ i := by omega
    have fb := bits_up i (by omega) l (by omega) hl2
    have hr : run a wh (l + 2 ^ i) (i + 1) = act a wh i (run a wh l i) := by
      show (if (l + 2 ^ i) / 2 ^ i % 2 = 1 then _ else _) = _
      rw [if_pos fb.1, run_cg i (fun j hj => fb.2 j (by omega) hj)]
    have eq1 : f_X0_findEnds_31 N g (k + 1) vd v sw (nI i) (nI l) = f_X0_findEnds_31 N g k (upa vd 12 (l + 2 ^ i) (nI (act a wh i (run a wh l i)))) v sw (nI i) (nI (l + 1)) := by
      show b_X0_findEnds_31 N _ _ _ _ _ _ _ = _
      unfold b_X0_findEnds_31
      have ob := or_bit i (by omega) l (by omega) hl2
      rw [shl1 (by omega)] at ob
      rw [shl1 (by omega), if_neg (nI_nle2 (a := 2 ^ i) hl2 (by omega)), ck_in (by omega) (by decide), nI_clamp (by omega), h1 l hl2, bh_d hv (hd.2 i hi) hi (run_lt hv _ _ _), bs, ob, ck_in (by omega) (by decide), nI_clamp (by omega), nI_1]
    rw [eq1]
    refine ih (l + 1) k _ sw (by omega) (by omega) ⟨hd.1, hd.2⟩ (fun W hW => ?_) (fun W hW => ?_)
    · show upd (vd.2.2 12) _ _ _ = _
      rw [pk_un (by omega)]; exact h1 W hW
    · show upd (vd.2.2 12) _ _ _ = _
      by_cases c : W = l
      · rw [c, pk_us, hr]
      · rw [pk_un (by omega)]; exact h2 W (by omega)
theorem en_o {N : Nat} (hN : 200000 ≤ N) {v : US} {a : AV} (hv : Valid a) {wh : Nat} : ∀ d i k vd sw, i + d = a.1 8 → d < k → DayF vd a wh → (∀ W, W < 2 ^ i → vd.2.2 12 W = nI (run a wh W i)) → ∃ vd' sw', f_X0_findEnds_21 N k vd v sw (nI i) = some (vd', sw') ∧ DayF vd' a wh ∧ (∀ W, W < 2 ^ a.1 8 → vd'.2.2 12 W = nI (run a wh W (a.1 8))) := by
  have h8 := hv.2.2.2.2.1
  intro d
  induction d with
  | zero =>
    intro i k vd sw hi hk hd h1
    obtain ⟨k, rfl⟩ : ∃ j, k = j + 1 := ⟨k - 1, by omega⟩
    have : i = a.1 8 := by omega
    subst this
    refine ⟨vd, sw, ?_, hd, h1⟩
    show b_X0_findEnds_21 N _ _ _ _ _ = _
    unfold b_X0_findEnds_21
    rw [hd.1, if_pos (nI_le (Nat.le_refl _) (by omega))]
  | succ d ih =>
    intro i k vd sw hi hk hd h1
    obtain ⟨k, rfl⟩ : ∃ j, k = j + 1 := ⟨k - 1, by omega⟩
    have hp := pow5 (n := i) (by omega)
    obtain ⟨vd1, e1, e2, e3⟩ := en_i (N := N) (g := f_X0_findEnds_21 N k) (v := v) hv (wh := wh) (i := i) (by omega) (2 ^ i) 0 N vd sw (by omega) (by omega) hd h1 (fun W hW => absurd hW (Nat.not_lt_zero W))
    have e1 : f_X0_findEnds_31 N (f_X0_findEnds_21 N k) N vd v sw (nI i) 0 = _ := e1
    show ∃ vd' sw', b_X0_findEnds_21 N _ _ _ _ _ = some (vd', sw') ∧ _
    unfold b_X0_findEnds_21
    rw [hd.1, if_neg (nI_nle2 (a := a.1 8) (by omega) (by omega)), e1]
    exact ih (i + 1) k vd1 sw (by omega) (by omega) e2 e3
/-- how many, and the first -/
def cnt (f : Nat → Bool) : Nat → Nat
  | 0 => 0
  | k + 1 => cnt f k + if f k then 1 else 0
def fnd (f : Nat → Bool) : Nat → Int32
  | 0 => -1
  | k + 1 => if f k && cnt f k == 0 then nI k else fnd f k
theorem cnt_le (f : Nat → Bool) : ∀ n, cnt f n ≤ n := by
  intro n
  induction n with
  | zero => exact Nat.le_refl _
  | succ n ih =>
    show cnt f n + (if f n then 1 else 0) ≤ _
    split <;> omega
theorem cnt_mono (f : Nat → Bool) (i : Nat) : ∀ d, cnt f i ≤ cnt f (i + d) := by
  intro d
  induction d with
  | zero => exact Nat.le_refl _
  | succ d ih =>
    show _ ≤ cnt f (i + d) + (if f (i + d) then 1 else 0)
    omega
theorem fnd_no (f : Nat → Bool) : ∀ n, cnt f n = 0 → fnd f n = -1 := by
  intro n
  induction n with
  | zero => intro _; rfl
  | succ n ih =>
    intro h
    have h : cnt f n + (if f n then 1 else 0) = 0 := h
    show (if f n && cnt f n == 0 then nI n else fnd f n) = -1
    cases q : f n
    · exact ih (by omega)
    · rw [q, if_pos rfl] at h; omega
theorem fnd_st (f : Nat → Bool) {i : Nat} (h : 0 < cnt f i) : ∀ d, fnd f (i + d) = fnd f i := by
  intro d
  induction d with
  | zero => rfl
  | succ d ih =>
    show (if f (i + d) && cnt f (i + d) == 0 then nI (i + d) else fnd f (i + d)) = _
    have := cnt_mono f i d
    have e : (cnt f (i + d) == 0) = false := by
      rw [beq_eq_false_iff_ne]; omega
    rw [e, Bool.and_false, if_neg (by decide), ih]
theorem hm_x {N : Nat} {vd : US} {n z : Nat} (hn : n ≤ 5) (e1 : vd.1 1 = nI n) {R : Nat → Nat} (hR : ∀ W, W < 2 ^ n → vd.2.2 12 W = nI (R W)) : ∀ d i k, i + d = 2 ^ n → d < k → f_X0_howManyEndAt_4 N k vd (nI z) (nI (cnt (fun W => decide (nI (R W) = nI z)) i)) (nI i) = some (nI (cnt (fun W => decide (nI (R W) = nI z)) (2 ^ n))) := by
  have hp := pow5 hn
  intro d
  induction d with
  | zero =>
    intro i k hi hk
    obtain ⟨k, rfl⟩ : ∃ j, k = j + 1 := ⟨k - 1, by omega⟩
    have : i = 2 ^ n := by omega
    subst this
    show b_X0_howManyEndAt_4 N _ _ _ _ _ = _
    unfold b_X0_howManyEndAt_4
    rw [e1, shl1 hn, if_pos (nI_le (Nat.le_refl _) (by omega))]
  | succ d ih =>
    intro i k hi hk
    obtain ⟨k, rfl⟩ : ∃ j, k = j + 1 := ⟨k - 1, by omega⟩
    have IH := ih (i + 1) k (by omega) (by omega)
    have e6 : cnt (fun W => decide (nI (R W) = nI z)) (i + 1) = cnt (fun W => decide (nI (R W) = nI z)) i + if decide (nI (R i) = nI z) then 1 else 0 := rfl
    rw [e6] at IH
    show b_X0_howManyEndAt_4 N _ _ _ _ _ = _
    unfold b_X0_howManyEndAt_4
    rw [e1, shl1 hn, if_neg (nI_nle2 (a := 2 ^ n) (by omega) (by omega)), ck_in (by omega) (by decide), nI_clamp (by omega), hR i (by omega), nI_1, nI_1]
    by_cases c : nI (R i) = nI z
    · rw [decide_eq_true c, if_pos rfl] at IH
      rw [if_pos c]; exact IH
    · rw [decide_eq_false c, if_neg (by decide), Nat.add_zero] at IH
      rw [if_neg c]; exact IH
theorem le_x {N : Nat} {vd : US} {n z : Nat} (hn : n ≤ 5) (e1 : vd.1 1 = nI n) {R : Nat → Nat} (hR : ∀ W, W < 2 ^ n → vd.2.2 12 W = nI (R W)) : ∀ d i k, i + d = 2 ^ n → d < k → cnt (fun W => decide (nI (R W) = nI z)) i = 0 → f_X0_leastThatEndsAt_2 N k vd (nI z) (nI i) = some (fnd (fun W => decide (nI (R W) = nI z)) (2 ^ n)) := by
  have hp := pow5 hn
  intro d
  induction d with
  | zero =>
    intro i k hi hk h0
    obtain ⟨k, rfl⟩ : ∃ j, k = j + 1 := ⟨k - 1, by omega⟩
    have : i = 2 ^ n := by omega
    subst this
    show b_X0_leastThatEndsAt_2 N _ _ _ _ = _
    unfold b_X0_leastThatEndsAt_2
    rw [e1, shl1 hn, if_pos (nI_le (Nat.le_refl _) (by omega)), fnd_no _ _ h0]
  | succ d ih =>
    intro i k hi hk h0
    obtain ⟨k, rfl⟩ : ∃ j, k = j + 1 := ⟨k - 1, by omega⟩
    have IH := ih (i + 1) k (by omega) (by omega)
    have e6 : cnt (fun W => decide (nI (R W) = nI z)) (i + 1) = cnt (fun W => decide (nI (R W) = nI z)) i + if decide (nI (R i) = nI z) then 1 else 0 := rfl
    have e7 : fnd (fun W => decide (nI (R W) = nI z)) (i + 1) = if decide (nI (R i) = nI z) && cnt (fun W => decide (nI (R W) = nI z)) i == 0 then nI i else fnd (fun W => decide (nI (R W) = nI z)) i := rfl
    rw [e6, h0] at IH
    show b_X0_leastThatEndsAt_2 N _ _ _ _ = _
    unfold b_X0_leastThatEndsAt_2
    rw [e1, shl1 hn, if_neg (nI_nle2 (a := 2 ^ n) (by omega) (by omega)), ck_in (by omega) (by decide), nI_clamp (by omega), hR i (by omega), nI_1]
    by_cases c : nI (R i) = nI z
    · rw [if_pos c]
      rw [decide_eq_true c, h0] at e6 e7
      have := fnd_st (fun W => decide (nI (R W) = nI z)) (i := i + 1) (by rw [e6]; decide) d
      rw [show i + 1 + d = 2 ^ n by omega, e7] at this
      rw [this]; rfl
    · rw [decide_eq_false c, if_neg (by decide)] at IH
      rw [if_neg c]; exact IH rfl
theorem wo_i {N : Nat} (hN : 200000 ≤ N) {g : US → (Nat → Int32) → Int32 → Int32 → Int32 → Int32 → Int32 → Option (Int32 × US)} {w : Nat → Int32} {a : AV} (hv : Valid a) (hm : RM w a) {wh W : Nat} (hw : wh < 32) (hW : W < 32) {s y2 y3 y4 : Int32} : ∀ d e k vm, e + d = a.1 8 → d < k → Taken vm a wh → ∃ vm', f_X12_who_60 N g k vm w s y2 y3 y4 (nI W) (nI (run a wh W e)) (nI e) = (if nI (run a wh W (a.1 8)) = s then (if y3 = 0 then g vm' w s y2 (y3 + 1) (nI W) (nI W + 1) else g vm' w s y2 (y3 + 1) y4 (nI W + 1)) else g vm' w s y2 y3 y4 (nI W + 1)) ∧ FrM vm vm' := by
  have h8 := hv.2.2.2.2.1
  intro d
  induction d with
  | zero =>
    intro e k vm he hk ht
    obtain ⟨k, rfl⟩ : ∃ j, k = j + 1 := ⟨k - 1, by omega⟩
    have : e = a.1 8 := by omega
    subst this
    refine ⟨vm, ?_, FrM.rf _⟩
    show b_X12_who_60 N _ _ _ _ _ _ _ _ _ _ _ = _
    unfold b_X12_who_60
    rw [m_errands, bs, hm.2.2.2.1, if_pos (nI_le (Nat.le_refl _) (by omega))]
  | succ d ih =>
    intro e k vm he hk ht
    obtain ⟨k, rfl⟩ : ∃ j, k = j + 1 := ⟨k - 1, by omega⟩
    have e6 : run a wh W (e + 1) = if W / 2 ^ e % 2 = 1 then act a wh e (run a wh W e) else run a wh W e := rfl
    show ∃ vm', b_X12_who_60 N _ _ _ _ _ _ _ _ _ _ _ = _ ∧ _
    unfold b_X12_who_60
    rw [m_errands, bs, hm.2.2.2.1, if_neg (nI_nle2 (a := a.1 8) (by omega) (by omega)), (fin_bit e (by omega) W hW).1, nI_1]
    rcases half2 W e with q | q
    · rw [q, if_neg (by decide)]
      rw [q, if_neg (by decide)] at e6
      rw [← e6]
      exact ih (e + 1) k vm (by omega) (by omega) ht
    · rw [q, if_pos (show nI 1 = 1 from rfl)]
      rw [q, if_pos rfl] at e6
      obtain ⟨vm1, d1, d2⟩ := de_m hN hv hm hw ht (e := e) (by omega) (lt32 hv.1 (run_lt hv wh W e))
      rw [d1, bs, ← e6]
      obtain ⟨vm', r1, r2⟩ := ih (e + 1) k vm1 (by omega) (by omega) (d2.tk ht)
      exact ⟨vm', r1, d2.tr r2⟩
theorem wo_o {N : Nat} (hN : 200000 ≤ N) {w : Nat → Int32} {a : AV} (hv : Valid a) (hm : RM w a) {wh z : Nat} (hw : wh < 32) {y2 : Int32} : ∀ d i k vm, i + d = 2 ^ a.1 8 → d < k → Taken vm a wh → ∃ vm', f_X12_who_37 N k vm w (nI z) y2 (nI (cnt (fun W => decide (nI (run a wh W (a.1 8)) = nI z)) i)) (fnd (fun W => decide (nI (run a wh W (a.1 8)) = nI z)) i) (nI i) = some ((if y2 = 0 then nI (cnt (fun W => decide (nI (run a wh W (a.1 8)) = nI z)) (2 ^ a.1 8)) else fnd (fun W => decide (nI (run a wh W (a.1 8)) = nI z)) (2 ^ a.1 8)), vm') ∧ FrM vm vm' := by
  have h8 := hv.2.2.2.2.1
  have hp := pow5 h8
  intro d
  induction d with
  | zero =>
    intro i k vm hi hk ht
    obtain ⟨k, rfl⟩ : ∃ j, k = j + 1 := ⟨k - 1, by omega⟩
    have : i = 2 ^ a.1 8 := by omega
    subst this
    refine ⟨vm, ?_, FrM.rf _⟩
    show b_X12_who_37 N _ _ _ _ _ _ _ _ = _
    unfold b_X12_who_37
    rw [m_errands, bs, hm.2.2.2.1, shl1 h8, if_pos (nI_le (Nat.le_refl _) (by omega))]
    by_cases c : y2 = 0
    · rw [if_pos c, if_pos c]
    · rw [if_neg c, if_neg c]
  | succ d ih =>
    intro i k vm hi hk ht
    obtain ⟨k, rfl⟩ : ∃ j, k = j + 1 := ⟨k - 1, by omega⟩
    have cl := cnt_le (fun W => decide (nI (run a wh W (a.1 8)) = nI z)) i
    have e6 : cnt (fun W => decide (nI (run a wh W (a.1 8)) = nI z)) (i + 1) = cnt (fun W => decide (nI (run a wh W (a.1 8)) = nI z)) i + if decide (nI (run a wh i (a.1 8)) = nI z) then 1 else 0 := rfl
    have e7 : fnd (fun W => decide (nI (run a wh W (a.1 8)) = nI z)) (i + 1) = if decide (nI (run a wh i (a.1 8)) = nI z) && cnt (fun W => decide (nI (run a wh W (a.1 8)) = nI z)) i == 0 then nI i else fnd (fun W => decide (nI (run a wh W (a.1 8)) = nI z)) i := rfl
    obtain ⟨vm1, s1, s2⟩ := wo_i hN (g := f_X12_who_37 N k) hv hm hw (W := i) (by omega) (s := nI z) (y2 := y2) (y3 := nI (cnt (fun W => decide (nI (run a wh W (a.1 8)) = nI z)) i)) (y4 := fnd (fun W => decide (nI (run a wh W (a.1 8)) = nI z)) i) (a.1 8) 0 N vm (by omega) (by omega) ht
    have s1 : f_X12_who_60 N (f_X12_who_37 N k) N vm w (nI z) y2 (nI (cnt (fun W => decide (nI (run a wh W (a.1 8)) = nI z)) i)) (fnd (fun W => decide (nI (run a wh W (a.1 8)) = nI z)) i) (nI i) (nI (a.1 7)) 0 = _ := s1
    have IH := ih (i + 1) k vm1 (by omega) (by omega) (s2.tk ht)
    rw [e6, e7] at IH
    show ∃ vm', b_X12_who_37 N _ _ _ _ _ _ _ _ = _ ∧ _
    unfold b_X12_who_37
    rw [m_errands, bs, hm.2.2.2.1, shl1 h8, if_neg (nI_nle2 (a := 2 ^ a.1 8) (by omega) (by omega)), if_neg (by decide), show (27 : Int32).toNatClampNeg = 27 from by decide, hm.2.2.1, s1]
    rw [nI_1, nI_1]
    by_cases c : nI (run a wh i (a.1 8)) = nI z
    · rw [if_pos c]
      rw [decide_eq_true c] at IH
      rcases Nat.eq_zero_or_pos (cnt (fun W => decide (nI (run a wh W (a.1 8)) = nI z)) i) with q | q
      · rw [q] at IH ⊢
        rw [if_pos (show nI 0 = 0 from rfl)]
        obtain ⟨vm', r1, r2⟩ := IH
        exact ⟨vm', r1, s2.tr r2⟩
      · rw [if_neg (fun h => by have := (nI_eq (b := 0) (by omega) (by decide)).mp h; omega)]
        have e : (cnt (fun W => decide (nI (run a wh W (a.1 8)) = nI z)) i == 0) = false := by
          rw [beq_eq_false_iff_ne]; omega
        rw [e] at IH
        obtain ⟨vm', r1, r2⟩ := IH
        exact ⟨vm', r1, s2.tr r2⟩
    · rw [if_neg c]
      rw [decide_eq_false c] at IH
      obtain ⟨vm', r1, r2⟩ := IH
      exact ⟨vm', r1, s2.tr r2⟩
theorem sim_who {N : Nat} (hN : 200000 ≤ N) {vob vn : US} {tx : Nat → Int32} {i0 i1 : Option US} {vm : US} {w : Nat → Int32} (hI : Inv vob vn tx i0 i1 vm w) (vd : US) (vds : US) (k0 : Int32) (k1 : Int32) : ∃ rx rm, f_X11_who N vob vd vds vn k0 k1 = some rx ∧ f_X12_who N vm w k0 k1 = some rm ∧ rx.1 = rm.1 ∧ Inv rx.2.1 vn tx i0 i1 rm.2 w := by
  obtain ⟨a, hv, hx, hm⟩ := hI.1
  have h5 := hv.1
  have h8 := hv.2.2.2.2.1
  have hp := pow5 h8
  have hw := lt32 h5 hv.2.1
  unfold f_X11_who f_X12_who
  rw [hs_m (hx.1.trans hm.1.symm), show f_X12_in k1.toInt64 0 1 = f_X11_within k1 0 1 from in_w k1 0 1]
  rcases hs_x h5 hx.1 k0 with ⟨g, z, hz, rfl⟩ | g
  · rcases wi k1 0 1 (by decide) (by decide) with ⟨h, j, -, hj, rfl⟩ | h
    · have h : f_X11_within (nI j) 0 1 = some true := h
      simp only [g, h, bs, ift]
      obtain ⟨vd1, sw1, d1, d2, -⟩ := lk_x hN hv hx hw vd vds
      obtain ⟨vd2, sw2, f1, f2, f3⟩ := en_o hN (v := vn) hv (wh := a.1 5) (a.1 8) 0 N (upa vd1 12 0 (nI (a.1 7))) sw1 (by omega) (by omega) ⟨d2.1, d2.2⟩ (fun W hW => by
        have : W = 0 := by omega
        subst this
        show upd (vd1.2.2 12) 0 _ 0 = _
        rw [pk_us]; rfl)
      have f1 : f_X0_findEnds_21 N N (upa vd1 12 0 (nI (a.1 7))) vn sw1 0 = some (vd2, sw2) := f1
      have fe : f_X0_findEnds N vd vn vds = some (vd2, sw2) := by
        unfold f_X0_findEnds
        rw [hx.2.1, d1, bs, if_neg (by decide), show (0 : Int32).toNatClampNeg = 0 from by decide, hx.2.2.2.1]
        exact f1
      obtain ⟨vm1, t1, t2, t3⟩ := tk_m hN (vm := vm) hv hm
      obtain ⟨vm2, r1, r2⟩ := wo_o hN hv hm hw (z := z) (y2 := nI j) (2 ^ a.1 8) 0 N vm1 (by omega) (by omega) t2
      have r1 : f_X12_who_37 N N vm1 w (nI z) (nI j) 0 (-1) 0 = _ := r1
      have x1 : f_X0_howManyEndAt N vd2 (nI z) = _ := hm_x (N := N) h8 f2.1 f3 (z := z) (2 ^ a.1 8) 0 N (by omega) (by omega)
      have x2 : f_X0_leastThatEndsAt N vd2 (nI z) = _ := le_x (N := N) h8 f2.1 f3 (z := z) (2 ^ a.1 8) 0 N (by omega) (by omega) rfl
      simp only [fe, t1, bs, r1, x1, x2]
      by_cases c : nI j = 0
      · rw [if_pos c, if_pos c]
        exact ⟨_, _, rfl, rfl, rfl, hI.scr (t3.tr r2.sc)⟩
      · rw [if_neg c, if_neg c]
        exact ⟨_, _, rfl, rfl, rfl, hI.scr (t3.tr r2.sc)⟩
    · have h : f_X11_within k1 0 1 = some false := h
      simp only [g, h, bs, ift, iff0]
      refine ⟨_, _, rfl, rfl, ?_, ?_⟩
      · rfl
      · exact hI.bad
  · simp only [g, bs, iff0]
    refine ⟨_, _, rfl, rfl, ?_, ?_⟩
    · rfl
    · exact hI.bad
