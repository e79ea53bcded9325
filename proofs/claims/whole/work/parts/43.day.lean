/-! the errands of a day: looked at, rung, and the digest -/
def act (a : AV) (wh e o : Nat) : Nat := aft a (sdv a) wh (a.2 9 e) (a.2 10 e) 5 0 o
def rng (a : AV) (wh e : Nat) : Nat := (tvl (sdv a) wh (a.2 9 e) (a.2 10 e) + tvl (sdv a) wh 5 0) / 3
def DayE (vd : US) (a : AV) (wh e : Nat) : Prop := (∀ o, o < 2 ^ a.1 0 → (nI o &&& vd.2.2 2 e) ^^^ vd.2.2 3 e = nI (act a wh e o)) ∧ vd.2.2 4 e = nI (rng a wh e)
def DayF (vd : US) (a : AV) (wh : Nat) : Prop := vd.1 1 = nI (a.1 8) ∧ ∀ e, e < a.1 8 → DayE vd a wh e
def FrD (vd vd' : US) : Prop := (∀ k, k ≠ 1 → vd'.1 k = vd.1 k) ∧ vd'.2.1 = vd.2.1 ∧ ∀ s, s ≠ 2 → s ≠ 3 → s ≠ 4 → vd'.2.2 s = vd.2.2 s
theorem lk_l {N : Nat} (hN : 200000 ≤ N) {v : US} {a : AV} (hv : Valid a) (hx : RX v a) {wh : Nat} (hw : wh < 32) : ∀ d i k vd sw, i + d = a.1 8 → d < k → vd.1 1 = nI (a.1 8) → (∀ e, e < i → DayE vd a wh e) → ∃ vd' sw', f_X0_look_10 N k vd v sw (nI wh) (nI i) = some (vd', sw') ∧ DayF vd' a wh ∧ FrD vd vd' := by
  have h5 := hv.2.2.2.2.1
  intro d
  induction d with
  | zero =>
    intro i k vd sw hi hk h1 he
    obtain ⟨k, rfl⟩ : ∃ j, k = j + 1 := ⟨k - 1, by omega⟩
    have : i = a.1 8 := by omega
    subst this
    refine ⟨vd, sw, ?_, ⟨h1, he⟩, fun _ _ => rfl, rfl, fun _ _ _ _ => rfl⟩
    show b_X0_look_10 N _ _ _ _ _ _ = _
    unfold b_X0_look_10
    rw [h1, if_pos (nI_le (Nat.le_refl _) (by omega))]
  | succ d ih =>
    intro i k vd sw hi hk h1 he
    obtain ⟨k, rfl⟩ : ∃ j, k = j + 1 := ⟨k - 1, by omega⟩
    have hia : i < a.1 8 := by omega
    have g := hv.2.2.2.2.2.2.2.2.1 i hia
    have r := hx.2.2.2.2.2.2.2.2.1 i hia
    obtain ⟨sw1, s1, s2, s3, s4⟩ := by_x hN hv hx hw g.1 g.2 (Or.inr ⟨rfl, rfl⟩) (m := 0) (by decide) sw
    have s1 : f_X8_by N sw v (nI wh) (nI (a.2 9 i)) (nI (a.2 10 i)) (-1) 0 = some sw1 := s1
    have l1 := tvl_le (sdv a) wh (a.2 9 i) (a.2 10 i)
    have l2 := tvl_le (sdv a) wh 5 0
    have e8 : f_X8_rings sw1 = some (nI (rng a wh i)) := by
      unfold f_X8_rings
      rw [s2.2.2.2.2, show (3 : Int32) = nI 3 from rfl, pk_div (by omega) (by decide) (by decide)]
      rfl
    have ck : ∀ {α : Type} (k : Option α), (if nI i < 0 ∨ 5 ≤ (nI i).toNatClampNeg then none else k) = k := fun k => ck_in (by omega) (by decide)
    have eq1 : f_X0_look_10 N (k + 1) vd v sw (nI wh) (nI i) = f_X0_look_10 N k (upa (upa (upa vd 2 i (sw1.1 6)) 3 i (sw1.1 7)) 4 i (nI (rng a wh i))) v sw1 (nI wh) (nI (i + 1)) := by
      show b_X0_look_10 N _ _ _ _ _ _ = _
      unfold b_X0_look_10
      rw [h1, if_neg (nI_nle2 (a := a.1 8) hia (by omega))]
      simp only [ck]
      rw [nI_clamp (by omega), r.1, r.2, s1]
      simp only [bs, bnd_eq, e8, nI_1]
    rw [eq1]
    obtain ⟨vd', sw', q1, q2, q3, q4, q5⟩ := ih (i + 1) k (upa (upa (upa vd 2 i (sw1.1 6)) 3 i (sw1.1 7)) 4 i (nI (rng a wh i))) sw1 (by omega) (by omega) h1 (fun e he2 => by
      by_cases c : e = i
      · subst c
        refine ⟨fun o ho => ?_, ?_⟩
        · show (nI o &&& upd (vd.2.2 2) e (sw1.1 6) e) ^^^ upd (vd.2.2 3) e (sw1.1 7) e = _
          rw [pk_us, pk_us]
          have := bh_x hv.1 ho s3 s4
          unfold f_X8_behind at this
          exact Option.some.inj this
        · show upd (vd.2.2 4) e _ e = _
          rw [pk_us]
      · obtain ⟨d1, d2⟩ := he e (by omega)
        refine ⟨fun o ho => ?_, ?_⟩
        · show (nI o &&& upd (vd.2.2 2) i (sw1.1 6) e) ^^^ upd (vd.2.2 3) i (sw1.1 7) e = _
          rw [pk_un c, pk_un c]
          exact d1 o ho
        · show upd (vd.2.2 4) i _ e = _
          rw [pk_un c]; exact d2)
    exact ⟨vd', sw', q1, q2, q3, q4, fun s c1 c2 c3 => (q5 s c1 c2 c3).trans (by show (if s = 4 then _ else if s = 3 then _ else if s = 2 then _ else vd.2.2 s) = _; rw [if_neg c3, if_neg c2, if_neg c1])⟩
theorem lk_x {N : Nat} (hN : 200000 ≤ N) {v : US} {a : AV} (hv : Valid a) (hx : RX v a) {wh : Nat} (hw : wh < 32) (vd sw : US) : ∃ vd' sw', f_X0_look N vd v sw (nI wh) = some (vd', sw') ∧ DayF vd' a wh ∧ FrD vd vd' := by
  unfold f_X0_look
  rw [hx.2.2.2.2.1]
  have h5 := hv.2.2.2.2.1
  obtain ⟨vd', sw', q1, q2, q3, q4⟩ := lk_l hN hv hx hw (a.1 8) 0 N (upi vd 1 (nI (a.1 8))) sw (by omega) (by omega) rfl (fun e he => absurd he (Nat.not_lt_zero e))
  exact ⟨vd', sw', q1, q2, fun k hk => (q3 k hk).trans (if_neg hk), q4⟩
/-- the reference's pull changes only what a pull holds -/
def FrM (vm vm' : US) : Prop := vm'.2 = vm.2 ∧ ∀ k, k < 8 ∨ 11 < k → vm'.1 k = vm.1 k
theorem FrM.rf (vm : US) : FrM vm vm := ⟨rfl, fun _ _ => rfl⟩
theorem FrM.tr {x y z : US} (h : FrM x y) (g : FrM y z) : FrM x z := ⟨g.1.trans h.1, fun k hk => (g.2 k hk).trans (h.2 k hk)⟩
theorem FrM.tk {x y : US} (h : FrM x y) {a : AV} {wh : Nat} (t : Taken x a wh) : Taken y a wh := ⟨(h.2 7 (by omega)).trans t.1, by rw [h.1]; exact t.2⟩
theorem FrM.sc {x y : US} (h : FrM x y) : ScrM x y := by
  refine ⟨?_, h.2 17 (by omega), ?_, ?_, ?_, ?_⟩ <;> rw [h.1]
theorem op_f {vm : US} {a : AV} (hv : Valid a) {wh p n : Nat} (hw : wh < 32) (ht : Taken vm a wh) (hp : p < a.1 0) (hn : n ≤ 20) : ∃ vm', f_X12_onePull vm (nI p) (nI n) = some vm' ∧ MPl vm' (a.1 0) (sdv a) wh p n 5 0 ∧ FrM vm vm' := by
  refine ⟨_, rfl, ⟨ht.1, hw, fun t h => ⟨ht.2 t h, sdv_le hv h⟩, ⟨rfl, hp, rfl, hn⟩, Or.inr ⟨rfl, rfl⟩, rfl, by decide⟩, rfl, fun k hk => ?_⟩
  show (if k = 11 then _ else if k = 10 then _ else if k = 9 then _ else if k = 8 then _ else vm.1 k) = _
  rw [if_neg (by omega), if_neg (by omega), if_neg (by omega), if_neg (by omega)]
theorem at29 (e : Nat) : (29 : Int32) + 2 * nI e = nI (29 + 2 * e) := by
  rw [show (29 : Int32) = nI 29 from rfl, show (2 : Int32) = nI 2 from rfl, pk_mul, nI_add]
theorem at30 (e : Nat) : nI (29 + 2 * e) + 1 = nI (30 + 2 * e) := by
  rw [nI_1]; congr 1; omega
theorem de_m {N : Nat} (hN : 200000 ≤ N) {vm : US} {w : Nat → Int32} {a : AV} (hv : Valid a) (hm : RM w a) {wh e o : Nat} (hw : wh < 32) (ht : Taken vm a wh) (he : e < a.1 8) (ho : o < 32) : ∃ vm', f_X12_doErrand N vm w (nI e) (nI o) = some (nI (act a wh e o), vm') ∧ FrM vm vm' := by
  have h5 := hv.2.2.2.2.1
  have g := hv.2.2.2.2.2.2.2.2.1 e he
  have r := hm.2.2.2.2.2.2.2.1 e he
  obtain ⟨vm', o1, o2, o3⟩ := op_f hv hw ht g.1 g.2
  unfold f_X12_doErrand
  rw [at29, at30, ck_in (by omega) (by decide), ck_in (by omega) (by decide), nI_clamp (by omega), nI_clamp (by omega), r.1, r.2, o1, bs, bh_m hN hv hm o2 ho]
  exact ⟨vm', rfl, o3⟩
/-- heard -/
theorem hr_x {N : Nat} {vd : US} {a : AV} (hv : Valid a) {wh : Nat} (hd : DayF vd a wh) {x : Int32} : ∀ d i k, i + d = a.1 8 → d < k → f_X0_thatRing_4 N k vd x (nI (bsum (fun e => decide (nI (rng a wh e) = x)) i)) (nI i) = some (nI (bsum (fun e => decide (nI (rng a wh e) = x)) (a.1 8))) := by
  have h5 := hv.2.2.2.2.1
  intro d
  induction d with
  | zero =>
    intro i k hi hk
    obtain ⟨k, rfl⟩ : ∃ j, k = j + 1 := ⟨k - 1, by omega⟩
    have : i = a.1 8 := by omega
    subst this
    show b_X0_thatRing_4 N _ _ _ _ _ = _
    unfold b_X0_thatRing_4
    rw [hd.1, if_pos (nI_le (Nat.le_refl _) (by omega))]
  | succ d ih =>
    intro i k hi hk
    obtain ⟨k, rfl⟩ : ∃ j, k = j + 1 := ⟨k - 1, by omega⟩
    have IH := ih (i + 1) k (by omega) (by omega)
    have l := bsum_lt (fun e => decide (nI (rng a wh e) = x)) i
    have e6 : bsum (fun e => decide (nI (rng a wh e) = x)) (i + 1) = bsum (fun e => decide (nI (rng a wh e) = x)) i + if decide (nI (rng a wh i) = x) then 2 ^ i else 0 := rfl
    rw [e6] at IH
    show b_X0_thatRing_4 N _ _ _ _ _ = _
    unfold b_X0_thatRing_4
    rw [hd.1, if_neg (nI_nle2 (a := a.1 8) (by omega) (by omega)), ck_in (by omega) (by decide), nI_clamp (by omega), (hd.2 i (by omega)).2, nI_1]
    by_cases c : nI (rng a wh i) = x
    · rw [decide_eq_true c, if_pos rfl] at IH
      rw [if_pos c, or_bit i (by omega) _ (lt32 (by omega) l) l]
      exact IH
    · rw [decide_eq_false c, if_neg (by decide), Nat.add_zero] at IH
      rw [if_neg c]
      exact IH
theorem hr_m {N : Nat} {w : Nat → Int32} {a : AV} (hv : Valid a) (hm : RM w a) {wh : Nat} (hw : wh < 32) {x : Int32} : ∀ d i k vm, i + d = a.1 8 → d < k → Taken vm a wh → ∃ vm', f_X12_heard_19 N k vm w x (nI (bsum (fun e => decide (nI (rng a wh e) = x)) i)) (nI i) = some (nI (bsum (fun e => decide (nI (rng a wh e) = x)) (a.1 8)), vm') ∧ FrM vm vm' := by
  have h5 := hv.2.2.2.2.1
  intro d
  induction d with
  | zero =>
    intro i k vm hi hk ht
    obtain ⟨k, rfl⟩ : ∃ j, k = j + 1 := ⟨k - 1, by omega⟩
    have : i = a.1 8 := by omega
    subst this
    refine ⟨vm, ?_, FrM.rf _⟩
    show b_X12_heard_19 N _ _ _ _ _ _ = _
    unfold b_X12_heard_19
    rw [m_errands, bs, hm.2.2.2.1, if_pos (nI_le (Nat.le_refl _) (by omega))]
  | succ d ih =>
    intro i k vm hi hk ht
    obtain ⟨k, rfl⟩ : ∃ j, k = j + 1 := ⟨k - 1, by omega⟩
    have hia : i < a.1 8 := by omega
    have g := hv.2.2.2.2.2.2.2.2.1 i hia
    have r := hm.2.2.2.2.2.2.2.1 i hia
    obtain ⟨vm1, o1, o2, o3⟩ := op_f hv hw ht g.1 g.2
    have l1 := tvl_le (sdv a) wh (a.2 9 i) (a.2 10 i)
    have l2 := tvl_le (sdv a) wh 5 0
    obtain ⟨vm', q1, q2⟩ := ih (i + 1) k vm1 (by omega) (by omega) (o3.tk ht)
    refine ⟨vm', ?_, o3.tr q2⟩
    have l := bsum_lt (fun e => decide (nI (rng a wh e) = x)) i
    have e6 : bsum (fun e => decide (nI (rng a wh e) = x)) (i + 1) = bsum (fun e => decide (nI (rng a wh e) = x)) i + if decide (nI (rng a wh i) = x) then 2 ^ i else 0 := rfl
    rw [e6] at q1
    show b_X12_heard_19 N _ _ _ _ _ _ = _
    unfold b_X12_heard_19
    rw [m_errands, bs, hm.2.2.2.1, if_neg (nI_nle2 (a := a.1 8) (by omega) (by omega)), at29, at30, ck_in (by omega) (by decide), ck_in (by omega) (by decide), nI_clamp (by omega), nI_clamp (by omega), r.1, r.2, o1, bs, tr_m hv.1 o2, bs, show (3 : Int32) = nI 3 from rfl, pk_div (by omega) (by decide) (by decide), nI_1]
    show (if nI (rng a wh i) = x then _ else _) = _
    by_cases c : nI (rng a wh i) = x
    · rw [decide_eq_true c, if_pos rfl] at q1
      rw [if_pos c, or_bit i (by omega) _ (lt32 (by omega) l) l]
      exact q1
    · rw [decide_eq_false c, if_neg (by decide), Nat.add_zero] at q1
      rw [if_neg c, Int32.or_zero]
      exact q1
theorem sim_heard {N : Nat} (hN : 200000 ≤ N) {vob vn : US} {tx : Nat → Int32} {i0 i1 : Option US} {vm : US} {w : Nat → Int32} (hI : Inv vob vn tx i0 i1 vm w) (vd : US) (vds : US) (k0 : Int32) : ∃ rx rm, f_X11_heard N vob vd vds vn k0 = some rx ∧ f_X12_heard N vm w k0 = some rm ∧ rx.1 = rm.1 ∧ Inv rx.2.1 vn tx i0 i1 rm.2 w := by
  obtain ⟨a, hv, hx, hm⟩ := hI.1
  have h5 := hv.1
  have h8 := hv.2.2.2.2.1
  have hw := lt32 h5 hv.2.1
  unfold f_X11_heard f_X12_heard
  by_cases c : 0 ≤ k0
  · rw [if_pos c, if_pos c, hx.2.1]
    obtain ⟨vd', sw', d1, d2, -⟩ := lk_x hN hv hx hw vd vds
    obtain ⟨vm1, t1, t2, t3⟩ := tk_m hN (vm := vm) hv hm
    obtain ⟨vm2, r1, r2⟩ := hr_m (N := N) hv hm hw (x := k0) (a.1 8) 0 N vm1 (by omega) (by omega) t2
    have r1 : f_X12_heard_19 N N vm1 w k0 0 0 = some (_, vm2) := r1
    have r3 : f_X0_thatRing N vd' k0 = some _ := hr_x hv d2 (x := k0) (a.1 8) 0 N (by omega) (by omega)
    rw [d1, t1]
    simp only [bs]
    rw [r3, r1]
    exact ⟨_, _, rfl, rfl, rfl, hI.scr (t3.tr r2.sc)⟩
  · rw [if_neg c, if_neg c]
    refine ⟨_, _, rfl, rfl, ?_, ?_⟩
    · rfl
    · exact hI.bad
/-- digest -/
def sm (w : Nat → Int32) (h : Int64) (f : Nat) : Nat → Int64
  | 0 => h
  | k + 1 => 31 * sm w h f k + (w (f + k)).toInt64
theorem sm_m {N : Nat} {vm : US} {w : Nat → Int32} {h : Int64} {f c : Nat} (hc : f + c ≤ 63) : ∀ d i k, i + d = c → d < k → f_X12_sums_6 N k vm w (nI f) (nI c) (sm w h f i) (nI i) = some (sm w h f c) := by
  intro d
  induction d with
  | zero =>
    intro i k hi hk
    obtain ⟨k, rfl⟩ : ∃ j, k = j + 1 := ⟨k - 1, by omega⟩
    have : i = c := by omega
    subst this
    show b_X12_sums_6 N _ _ _ _ _ _ _ = _
    unfold b_X12_sums_6
    rw [if_pos (nI_le (Nat.le_refl _) (by omega))]
  | succ d ih =>
    intro i k hi hk
    obtain ⟨k, rfl⟩ : ∃ j, k = j + 1 := ⟨k - 1, by omega⟩
    show b_X12_sums_6 N _ _ _ _ _ _ _ = _
    unfold b_X12_sums_6
    rw [if_neg (nI_nle2 (a := c) (by omega) (by omega)), nI_add, ck_in (by omega) (by decide), nI_clamp (by omega), nI_1]
    exact ih (i + 1) k (by omega) (by omega)
theorem sums_m {N : Nat} (hN : 200000 ≤ N) {vm : US} {w : Nat → Int32} {h : Int64} {f c : Nat} (hc : f + c ≤ 63) : f_X12_sums N vm w h (nI f) (nI c) = some (sm w h f c) := sm_m hc c 0 N (by omega) (by omega)
theorem mx_3 {N : Nat} {v : US} {w : Nat → Int32} {a : AV} (hv : Valid a) (hx : RX v a) (hm : RM w a) {h : Int64} : ∀ d i k, i + d = a.1 11 → d < k → f_X9_mixInto_158 N k v (sm w h 40 (3 * i)) (nI i) = some (sm w h 40 (3 * a.1 11)) := by
  have h5 := hv.2.2.2.2.2.1
  intro d
  induction d with
  | zero =>
    intro i k hi hk
    obtain ⟨k, rfl⟩ : ∃ j, k = j + 1 := ⟨k - 1, by omega⟩
    have : i = a.1 11 := by omega
    subst this
    show b_X9_mixInto_158 N _ _ _ _ = _
    unfold b_X9_mixInto_158
    rw [hx.2.2.2.2.2.1, if_pos (nI_le (Nat.le_refl _) (by omega))]
  | succ d ih =>
    intro i k hi hk
    obtain ⟨k, rfl⟩ : ∃ j, k = j + 1 := ⟨k - 1, by omega⟩
    have hia : i < a.1 11 := by omega
    have r := hx.2.2.2.2.2.2.2.2.2.1 i hia
    have s := hm.2.2.2.2.2.2.2.2.1 i hia
    show b_X9_mixInto_158 N _ _ _ _ = _
    unfold b_X9_mixInto_158
    rw [hx.2.2.2.2.2.1, if_neg (nI_nle2 (a := a.1 11) hia (by omega)), ck_in (by omega) (by decide), ck_in (by omega) (by decide), ck_in (by omega) (by decide), nI_clamp (by omega), r.1, r.2.1, r.2.2, ← s.1, ← s.2.1, ← s.2.2, nI_1]
    have e : sm w h 40 (3 * (i + 1)) = 31 * (31 * (31 * sm w h 40 (3 * i) + (w (40 + 3 * i)).toInt64) + (w (41 + 3 * i)).toInt64) + (w (42 + 3 * i)).toInt64 := by
      rw [show 41 + 3 * i = 40 + (3 * i + 1) by omega, show 42 + 3 * i = 40 + (3 * i + 2) by omega]
      rfl
    rw [← e]
    exact ih (i + 1) k (by omega) (by omega)
theorem mx_2 {N : Nat} (hN : 200000 ≤ N) {v : US} {w : Nat → Int32} {a : AV} (hv : Valid a) (hx : RX v a) (hm : RM w a) {h : Int64} : ∀ d i k, i + d = a.1 8 → d < k → f_X9_mixInto_110 N k v (sm w h 29 (2 * i)) (nI i) = some (sm w (sm w h 29 (2 * a.1 8)) 40 (3 * a.1 11)) := by
  have h5 := hv.2.2.2.2.1
  have h11 := hv.2.2.2.2.2.1
  intro d
  induction d with
  | zero =>
    intro i k hi hk
    obtain ⟨k, rfl⟩ : ∃ j, k = j + 1 := ⟨k - 1, by omega⟩
    have : i = a.1 8 := by omega
    subst this
    show b_X9_mixInto_110 N _ _ _ _ = _
    unfold b_X9_mixInto_110
    rw [hx.2.2.2.2.1, if_pos (nI_le (Nat.le_refl _) (by omega))]
    exact mx_3 hv hx hm (a.1 11) 0 N (by omega) (by omega)
  | succ d ih =>
    intro i k hi hk
    obtain ⟨k, rfl⟩ : ∃ j, k = j + 1 := ⟨k - 1, by omega⟩
    have hia : i < a.1 8 := by omega
    have r := hx.2.2.2.2.2.2.2.2.1 i hia
    have s := hm.2.2.2.2.2.2.2.1 i hia
    show b_X9_mixInto_110 N _ _ _ _ = _
    unfold b_X9_mixInto_110
    rw [hx.2.2.2.2.1, if_neg (nI_nle2 (a := a.1 8) hia (by omega)), ck_in (by omega) (by decide), ck_in (by omega) (by decide), nI_clamp (by omega), r.1, r.2, ← s.1, ← s.2, nI_1]
    have e : sm w h 29 (2 * (i + 1)) = 31 * (31 * sm w h 29 (2 * i) + (w (29 + 2 * i)).toInt64) + (w (30 + 2 * i)).toInt64 := by
      rw [show 30 + 2 * i = 29 + (2 * i + 1) by omega]
      rfl
    rw [← e]
    exact ih (i + 1) k (by omega) (by omega)
theorem mx_1 {N : Nat} (hN : 200000 ≤ N) {v : US} {w : Nat → Int32} {a : AV} (hv : Valid a) (hx : RX v a) (hm : RM w a) {h : Int64} : ∀ d i k, i + d = a.1 0 → d < k → f_X9_mixInto_15 N k v (sm w h 1 (5 * i)) (nI i) = some (sm w (sm w (sm w h 1 (5 * a.1 0)) 29 (2 * a.1 8)) 40 (3 * a.1 11)) := by
  have h5 := hv.1
  have h8 := hv.2.2.2.2.1
  intro d
  induction d with
  | zero =>
    intro i k hi hk
    obtain ⟨k, rfl⟩ : ∃ j, k = j + 1 := ⟨k - 1, by omega⟩
    have : i = a.1 0 := by omega
    subst this
    show b_X9_mixInto_15 N _ _ _ _ = _
    unfold b_X9_mixInto_15
    rw [hx.1, if_pos (nI_le (Nat.le_refl _) (by omega))]
    exact mx_2 hN hv hx hm (a.1 8) 0 N (by omega) (by omega)
  | succ d ih =>
    intro i k hi hk
    obtain ⟨k, rfl⟩ : ∃ j, k = j + 1 := ⟨k - 1, by omega⟩
    have hia : i < a.1 0 := by omega
    have r := hx.2.2.2.2.2.2.2.1 i hia
    have s := hm.2.2.2.2.2.2.1 i hia
    show b_X9_mixInto_15 N _ _ _ _ = _
    unfold b_X9_mixInto_15
    rw [hx.1, if_neg (nI_nle2 (a := a.1 0) hia (by omega)), ck_in (by omega) (by decide), ck_in (by omega) (by decide), ck_in (by omega) (by decide), ck_in (by omega) (by decide), nI_clamp (by omega), hx.2.1, (fin_bit i (by omega) _ (lt32 h5 hv.2.1)).1, r.1, r.2.1, r.2.2.1, r.2.2.2, ← s.1, ← s.2.1, ← s.2.2.1, ← s.2.2.2.1, ← s.2.2.2.2, nI_1]
    have e : sm w h 1 (5 * (i + 1)) = 31 * (31 * (31 * (31 * (31 * sm w h 1 (5 * i) + (w (1 + 5 * i)).toInt64) + (w (2 + 5 * i)).toInt64) + (w (3 + 5 * i)).toInt64) + (w (4 + 5 * i)).toInt64) + (w (5 + 5 * i)).toInt64 := by
      rw [show 2 + 5 * i = 1 + (5 * i + 1) by omega, show 3 + 5 * i = 1 + (5 * i + 2) by omega, show 4 + 5 * i = 1 + (5 * i + 3) by omega, show 5 + 5 * i = 1 + (5 * i + 4) by omega]
      rfl
    rw [← e]
    exact ih (i + 1) k (by omega) (by omega)
theorem cnt_eq {N : Nat} (hN : 200000 ≤ N) {vob vn : US} {tx : Nat → Int32} {i0 i1 : Option US} {vm : US} {w : Nat → Int32} (hI : Inv vob vn tx i0 i1 vm w) {j : Nat} (hj : j ≤ 6) : ∃ x, f_X11_howMany vob vn (nI j) = some x ∧ f_X12_counted N vm w (nI j) = some x := by
  obtain ⟨rx, rm, h1, h2, h3, -⟩ := sim_count hN hI (nI j)
  unfold f_X11_count at h1
  unfold f_X12_count at h2
  rw [show f_X12_in (nI j).toInt64 0 6 = f_X11_within (nI j) 0 6 from in_w (nI j) 0 6] at h2
  have : f_X11_within (nI j) 0 6 = some true := by
    have : j = 0 ∨ j = 1 ∨ j = 2 ∨ j = 3 ∨ j = 4 ∨ j = 5 ∨ j = 6 := by omega
    rcases this with rfl | rfl | rfl | rfl | rfl | rfl | rfl <;> rfl
  rw [this, bs, ift] at h1 h2
  cases hA : f_X11_howMany vob vn (nI j) with
  | none => rw [hA] at h1; cases h1
  | some x =>
    cases hB : f_X12_counted N vm w (nI j) with
    | none => rw [hB] at h2; cases h2
    | some y =>
      rw [hA, bs] at h1
      rw [hB, bs] at h2
      have e1 : (x, vob) = rx := Option.some.inj h1
      have e2 : (y, vm) = rm := Option.some.inj h2
      rw [← e1, ← e2] at h3
      have h3 : x = y := h3
      exact ⟨x, rfl, by rw [h3]⟩
theorem dg_l {N : Nat} (hN : 200000 ≤ N) {vob vn : US} {tx : Nat → Int32} {i0 i1 : Option US} {vm : US} {w : Nat → Int32} (hI : Inv vob vn tx i0 i1 vm w) : ∀ d i k h, i + d = 7 → d < k → ∃ r, f_X11_digest_6 N k vob vn h (nI i) = some r ∧ f_X12_digest_6 N k vm w h (nI i) = some r := by
  obtain ⟨a, hv, hx, hm⟩ := hI.1
  have h0 := hv.1
  have h8 := hv.2.2.2.2.1
  have h11 := hv.2.2.2.2.2.1
  intro d
  induction d with
  | zero =>
    intro i k h hi hk
    obtain ⟨k, rfl⟩ : ∃ j, k = j + 1 := ⟨k - 1, by omega⟩
    have : i = 7 := by omega
    subst this
    show ∃ r, b_X11_digest_6 N _ _ _ _ _ = some r ∧ b_X12_digest_6 N _ _ _ _ _ = some r
    unfold b_X11_digest_6 b_X12_digest_6 f_X9_mixInto
    rw [if_pos (by decide), if_pos (by decide), if_neg (by decide), show (27 : Int32).toNatClampNeg = 27 from by decide, m_things, bs, hm.1, hm.2.2.1, hx.2.2.2.1]
    have e : f_X9_mixInto_15 N N vn (31 * h + (nI (a.1 7)).toInt64) 0 = some (sm w (sm w (sm w (31 * h + (nI (a.1 7)).toInt64) 1 (5 * a.1 0)) 29 (2 * a.1 8)) 40 (3 * a.1 11)) := mx_1 hN hv hx hm (a.1 0) 0 N (by omega) (by omega)
    have e1 : (5 : Int32) * nI (a.1 0) = nI (5 * a.1 0) := by rw [show (5 : Int32) = nI 5 from rfl, pk_mul]
    have e2 : (2 : Int32) * nI (a.1 8) = nI (2 * a.1 8) := by rw [show (2 : Int32) = nI 2 from rfl, pk_mul]
    have e3 : (3 : Int32) * nI (a.1 11) = nI (3 * a.1 11) := by rw [show (3 : Int32) = nI 3 from rfl, pk_mul]
    have f1 : ∀ h, f_X12_sums N vm w h 1 (nI (5 * a.1 0)) = some (sm w h 1 (5 * a.1 0)) := fun h => sums_m hN (f := 1) (by omega)
    have f2 : ∀ h, f_X12_sums N vm w h 29 (nI (2 * a.1 8)) = some (sm w h 29 (2 * a.1 8)) := fun h => sums_m hN (f := 29) (by omega)
    have f3 : ∀ h, f_X12_sums N vm w h 40 (nI (3 * a.1 11)) = some (sm w h 40 (3 * a.1 11)) := fun h => sums_m hN (f := 40) (by omega)
    rw [e, e1, f1]
    simp only [bs, m_errands, m_rules]
    rw [hm.2.2.2.1, e2, f2]
    simp only [bs]
    rw [hm.2.2.2.2.1, e3, f3]
    refine ⟨_, rfl, ?_⟩
    show some _ = some _
    rw [hI.2.2.2.2.2.1, hI.2.2.2.2.2.2]
  | succ d ih =>
    intro i k h hi hk
    obtain ⟨k, rfl⟩ : ∃ j, k = j + 1 := ⟨k - 1, by omega⟩
    obtain ⟨x, c1, c2⟩ := cnt_eq hN hI (j := i) (by omega)
    show ∃ r, b_X11_digest_6 N _ _ _ _ _ = some r ∧ b_X12_digest_6 N _ _ _ _ _ = some r
    unfold b_X11_digest_6 b_X12_digest_6
    rw [if_neg (show ¬ (6 : Int32) < nI i from nI_nlt (a := 6) (by omega) (by decide)), if_neg (show ¬ (7 : Int32) ≤ nI i from nI_nle2 (a := 7) (by omega) (by decide)), c1, c2, bs, bs, nI_1]
    exact ih (i + 1) k _ (by omega) (by omega)
theorem sim_digest {N : Nat} (hN : 200000 ≤ N) {vob vn : US} {tx : Nat → Int32} {i0 i1 : Option US} {vm : US} {w : Nat → Int32} (hI : Inv vob vn tx i0 i1 vm w) : ∃ rx rm, f_X11_digest N vob vn = some rx ∧ f_X12_digest N vm w = some rm ∧ rx = rm ∧ Inv vob vn tx i0 i1 vm w := by
  obtain ⟨r, h1, h2⟩ := dg_l hN hI 7 0 N 773 (by omega) (by omega)
  exact ⟨r, r, h1, h2, rfl, hI⟩
