/-! which ropes to cut -/
def mn (x y : Nat) : Nat := x &&& (y ^^^ 31)
theorem mn_nI : ∀ x, x < 32 → ∀ y, y < 32 → nI x &&& (nI y ^^^ (-1)) = nI (mn x y) := by decide +kernel
theorem mn_lt {x : Nat} (h : x < 32) (y : Nat) : mn x y < 32 := Nat.lt_of_le_of_lt Nat.and_le_left h
theorem mn_outB : ∀ n, n < 6 → ∀ y, y < 32 → ∀ x, x < 32 → (!decide (y < 2 ^ n) || !decide (2 ^ n ≤ x) || !(mn x y == 0)) = true := by decide +kernel
theorem mn_out (n : Nat) (hn : n < 6) (y : Nat) (hy : y < 32) (x : Nat) (hx : x < 32) (h1 : y < 2 ^ n) (h2 : 2 ^ n ≤ x) : mn x y ≠ 0 := by
  intro h
  have := mn_outB n hn y hy x hx
  rw [decide_eq_true h1, decide_eq_true h2, h] at this
  exact absurd this (by decide)
theorem pcd_le : ∀ x, x < 32 → pcd 5 x ≤ 5 := by decide +kernel
def opE (a : AV) (wh z e : Nat) : Int32 := nI (act a wh e (a.1 7)) &&& nI (mn z (a.1 7))
def clr (a : AV) (wh z : Nat) : Nat → Bool
  | 0 => true
  | e + 1 => clr a wh z e && decide (opE a wh z e = 0)
theorem clr_f {a : AV} {wh z i : Nat} (h : clr a wh z i = false) : ∀ d, clr a wh z (i + d) = false := by
  intro d
  induction d with
  | zero => exact h
  | succ d ih =>
    show (clr a wh z (i + d) && _) = false
    rw [ih]; rfl
theorem ao_x {N : Nat} {vd : US} {a : AV} (hv : Valid a) {wh z : Nat} (hd : DayF vd a wh) : ∀ d e k, e + d = a.1 8 → d < k → clr a wh z e = true → f_X0_anyOpens_2 N k vd (nI (mn z (a.1 7))) (nI (a.1 7)) (nI e) = some (!clr a wh z (a.1 8)) := by
  have h8 := hv.2.2.2.2.1
  intro d
  induction d with
  | zero =>
    intro e k he hk h
    obtain ⟨k, rfl⟩ : ∃ j, k = j + 1 := ⟨k - 1, by omega⟩
    have : e = a.1 8 := by omega
    subst this
    show b_X0_anyOpens_2 N _ _ _ _ _ = _
    unfold b_X0_anyOpens_2
    rw [hd.1, if_pos (nI_le (Nat.le_refl _) (by omega)), h]
    rfl
  | succ d ih =>
    intro e k he hk h
    obtain ⟨k, rfl⟩ : ∃ j, k = j + 1 := ⟨k - 1, by omega⟩
    have e6 : clr a wh z (e + 1) = (clr a wh z e && decide (opE a wh z e = 0)) := rfl
    rw [h, Bool.true_and] at e6
    show b_X0_anyOpens_2 N _ _ _ _ _ = _
    unfold b_X0_anyOpens_2
    rw [hd.1, if_neg (nI_nle2 (a := a.1 8) (by omega) (by omega)), bh_d hv (hd.2 e (by omega)) (by omega) hv.2.2.2.1, bs, nI_1]
    show (if opE a wh z e = 0 then _ else _) = _
    by_cases c : opE a wh z e = 0
    · rw [if_pos c]
      exact ih (e + 1) k (by omega) (by omega) (by rw [e6, decide_eq_true c])
    · rw [if_neg c]
      have := clr_f (i := e + 1) (by rw [e6, decide_eq_false c]) d
      rw [show e + 1 + d = a.1 8 by omega] at this
      rw [this]; rfl
theorem cu_i {N : Nat} (hN : 200000 ≤ N) {g : US → (Nat → Int32) → Int32 → Int32 → Int32 → Int32 → Option (Int32 × US)} {w : Nat → Int32} {a : AV} (hv : Valid a) (hm : RM w a) {wh z : Nat} (hw : wh < 32) (hz : z < 32) {y2 y3 y4 : Int32} : ∀ d e k vm, e + d = a.1 8 → d < k → Taken vm a wh → clr a wh z e = true → ∃ vm', f_X12_cuts_82 N g k vm w (nI z) y2 y3 y4 1 (nI e) = b_X12_cuts_137 N g vm' w (nI z) y2 y3 y4 (b2i (clr a wh z (a.1 8))) ∧ FrM vm vm' := by
  have h8 := hv.2.2.2.2.1
  intro d
  induction d with
  | zero =>
    intro e k vm he hk ht h
    obtain ⟨k, rfl⟩ : ∃ j, k = j + 1 := ⟨k - 1, by omega⟩
    have : e = a.1 8 := by omega
    subst this
    refine ⟨vm, ?_, FrM.rf _⟩
    show b_X12_cuts_82 N _ _ _ _ _ _ _ _ _ _ = _
    unfold b_X12_cuts_82
    rw [m_errands, bs, hm.2.2.2.1, if_pos (nI_le (Nat.le_refl _) (by omega)), h]
    rfl
  | succ d ih =>
    intro e k vm he hk ht h
    obtain ⟨k, rfl⟩ : ∃ j, k = j + 1 := ⟨k - 1, by omega⟩
    have e6 : clr a wh z (e + 1) = (clr a wh z e && decide (opE a wh z e = 0)) := rfl
    rw [h, Bool.true_and] at e6
    have ho := lt32 hv.1 hv.2.2.2.1
    obtain ⟨vm1, d1, d2⟩ := de_m hN hv hm hw ht (e := e) (by omega) ho
    have eo : (nI (act a wh e (a.1 7)) &&& (nI (a.1 7) ^^^ (-1))) &&& nI z = opE a wh z e := by
      unfold opE
      rw [← mn_nI z hz _ ho, Int32.and_assoc, Int32.and_comm (nI (a.1 7) ^^^ (-1)) (nI z)]
    show ∃ vm', b_X12_cuts_82 N _ _ _ _ _ _ _ _ _ _ = _ ∧ _
    unfold b_X12_cuts_82
    rw [m_errands, bs, hm.2.2.2.1, if_neg (nI_nle2 (a := a.1 8) (by omega) (by omega)), if_neg (by decide), if_neg (by decide), show (27 : Int32).toNatClampNeg = 27 from by decide, hm.2.2.1, d1, bs, if_neg (show ¬ ((27 : Int32) < 0 ∨ 63 ≤ 27) by decide)]
    show ∃ vm', (if (nI (act a wh e (a.1 7)) &&& (nI (a.1 7) ^^^ (-1))) &&& nI z = 0 then _ else _) = _ ∧ _
    rw [eo, nI_1]
    by_cases c : opE a wh z e = 0
    · rw [if_pos c]
      obtain ⟨vm', r1, r2⟩ := ih (e + 1) k vm1 (by omega) (by omega) (d2.tk ht) (by rw [e6, decide_eq_true c])
      exact ⟨vm', r1, d2.tr r2⟩
    · rw [if_neg c]
      have := clr_f (i := e + 1) (by rw [e6, decide_eq_false c]) d
      rw [show e + 1 + d = a.1 8 by omega] at this
      rw [this]
      refine ⟨vm1, ?_, d2⟩
      obtain ⟨k, rfl⟩ : ∃ j, k = j + 1 := ⟨k - 1, by omega⟩
      show b_X12_cuts_82 N _ _ _ _ _ _ _ _ _ _ = _
      unfold b_X12_cuts_82
      rw [m_errands, bs, if_pos rfl]
      by_cases c2 : w 28 ≤ nI (e + 1)
      · rw [if_pos c2]; rfl
      · rw [if_neg c2]; rfl
theorem cu_0 {N : Nat} (hN : 200000 ≤ N) {g : US → (Nat → Int32) → Int32 → Int32 → Int32 → Int32 → Option (Int32 × US)} {w : Nat → Int32} {vm : US} {y1 y2 y3 y4 y6 : Int32} : f_X12_cuts_82 N g N vm w y1 y2 y3 y4 0 y6 = b_X12_cuts_137 N g vm w y1 y2 y3 y4 0 := by
  obtain ⟨k, rfl⟩ : ∃ j, N = j + 1 := ⟨N - 1, by omega⟩
  show b_X12_cuts_82 _ _ _ _ _ _ _ _ _ _ _ = _
  unfold b_X12_cuts_82
  rw [m_errands, bs, if_pos rfl]
  by_cases c2 : w 28 ≤ y6
  · rw [if_pos c2]
  · rw [if_neg c2]
/-- the best so far, and how many it cuts -/
def bst (a : AV) (z : Nat) : Nat → Int32 × Int32
  | 0 => (-1, 6)
  | i + 1 => if mn i (a.1 5) = 0 ∧ nI (pcd 5 i) < (bst a z i).2 ∧ clr a (mn (a.1 5) i) z (a.1 8) = true then (nI i, nI (pcd 5 i)) else bst a z i
theorem bst_p (a : AV) (z : Nat) : ∀ i, i ≤ 32 → bst a z i = (-1, 6) ∨ ∃ b, b < 32 ∧ bst a z i = (nI b, nI (pcd 5 b)) := by
  intro i
  induction i with
  | zero => intro _; exact Or.inl rfl
  | succ i ih =>
    intro hi
    unfold bst
    split
    · exact Or.inr ⟨i, by omega, rfl⟩
    · exact ih (by omega)
theorem bst_hi {a : AV} (hv : Valid a) (z : Nat) : ∀ d, 2 ^ a.1 0 + d ≤ 32 → bst a z (2 ^ a.1 0 + d) = bst a z (2 ^ a.1 0) := by
  intro d
  induction d with
  | zero => intro _; rfl
  | succ d ih =>
    intro h
    show (if mn (2 ^ a.1 0 + d) (a.1 5) = 0 ∧ _ then _ else _) = _
    rw [if_neg (fun q => mn_out (a.1 0) (by have := hv.1; omega) (a.1 5) (lt32 hv.1 hv.2.1) (2 ^ a.1 0 + d) (by omega) hv.2.1 (by omega) q.1)]
    exact ih (by omega)
theorem fc_x {N : Nat} (hN : 200000 ≤ N) {v : US} {a : AV} (hv : Valid a) (hx : RX v a) {z : Nat} (hz : z < 32) : ∀ d i k vd sw, i + d = 2 ^ a.1 0 → d < k → ∃ vd' sw', f_X0_fewestCuts_9 N k vd v sw (nI z) (bst a z i).1 (bst a z i).2 (nI i) = some ((bst a z (2 ^ a.1 0)).1, vd', sw') := by
  have h5 := hv.1
  have hp := pow5 h5
  have hw := lt32 h5 hv.2.1
  intro d
  induction d with
  | zero =>
    intro i k vd sw hi hk
    obtain ⟨k, rfl⟩ : ∃ j, k = j + 1 := ⟨k - 1, by omega⟩
    have : i = 2 ^ a.1 0 := by omega
    subst this
    refine ⟨vd, sw, ?_⟩
    show b_X0_fewestCuts_9 N _ _ _ _ _ _ _ _ = _
    unfold b_X0_fewestCuts_9
    rw [hx.1, shl1 h5, if_pos (nI_le (Nat.le_refl _) (by omega))]
  | succ d ih =>
    intro i k vd sw hi hk
    obtain ⟨k, rfl⟩ : ∃ j, k = j + 1 := ⟨k - 1, by omega⟩
    have IH := fun vd sw => ih (i + 1) k vd sw (by omega) (by omega)
    have e6 : bst a z (i + 1) = if mn i (a.1 5) = 0 ∧ nI (pcd 5 i) < (bst a z i).2 ∧ clr a (mn (a.1 5) i) z (a.1 8) = true then (nI i, nI (pcd 5 i)) else bst a z i := rfl
    show ∃ vd' sw', b_X0_fewestCuts_9 N _ _ _ _ _ _ _ _ = _
    unfold b_X0_fewestCuts_9
    rw [hx.1, shl1 h5, if_neg (nI_nle2 (a := 2 ^ a.1 0) (by omega) (by omega)), hx.2.1, hx.2.2.2.1, mn_nI i (by omega) _ hw, mn_nI _ hw i (by omega), mn_nI z hz _ (lt32 h5 hv.2.2.2.1), bc_x i (by omega), nI_1]
    by_cases c1 : mn i (a.1 5) = 0
    · rw [c1, if_pos (show nI 0 = 0 from rfl), bs]
      by_cases c2 : nI (pcd 5 i) < (bst a z i).2
      · rw [if_pos c2]
        obtain ⟨vd1, sw1, l1, l2, -⟩ := lk_x hN hv hx (mn_lt hw i) vd sw
        have ao := ao_x (N := N) hv l2 (z := z) (a.1 8) 0 N (by omega) (by have := hv.2.2.2.2.1; omega) rfl
        have ao : f_X0_anyOpens N vd1 (nI (mn z (a.1 7))) (nI (a.1 7)) = _ := ao
        simp only [l1, bs, ao]
        cases c3 : clr a (mn (a.1 5) i) z (a.1 8)
        · rw [if_neg (by decide)]
          rw [if_neg (fun q => by rw [c3] at q; exact absurd q.2.2 (by decide))] at e6
          rw [e6] at IH
          exact IH vd1 sw1
        · rw [if_pos (by decide)]
          rw [if_pos ⟨c1, c2, c3⟩] at e6
          rw [e6] at IH
          exact IH vd1 sw1
      · rw [if_neg c2]
        rw [if_neg (fun q => c2 q.2.1)] at e6
        rw [e6] at IH
        exact IH vd sw
    · rw [if_neg (show ¬ nI (mn i (a.1 5)) = 0 from fun q => c1 ((nI_eq (b := 0) (by have := mn_lt (x := i) (by omega) (a.1 5); omega) (by decide)).mp q))]
      rw [if_neg (fun q => c1 q.1)] at e6
      rw [e6] at IH
      exact IH vd sw
def SlT (vm : US) (a : AV) : Prop := ∀ t, t < a.1 0 → vm.2.2 6 t = nI (sdv a t)
theorem cu_o {N : Nat} (hN : 200000 ≤ N) {w : Nat → Int32} {a : AV} (hv : Valid a) (hm : RM w a) {z : Nat} (hz : z < 32) : ∀ d i k vm, i + d = 32 → d < k → SlT vm a → ∃ vm', f_X12_cuts_29 N k vm w (nI z) (bst a z i).1 (nI (a.1 5)) (nI i) = some ((bst a z 32).1, vm') ∧ ScrM vm vm' := by
  have h5 := hv.1
  have h8 := hv.2.2.2.2.1
  have hw := lt32 h5 hv.2.1
  intro d
  induction d with
  | zero =>
    intro i k vm hi hk ht
    obtain ⟨k, rfl⟩ : ∃ j, k = j + 1 := ⟨k - 1, by omega⟩
    have : i = 32 := by omega
    subst this
    exact ⟨vm, rfl, ScrM.rf _⟩
  | succ d ih =>
    intro i k vm hi hk ht
    obtain ⟨k, rfl⟩ : ∃ j, k = j + 1 := ⟨k - 1, by omega⟩
    have IH := fun vm => ih (i + 1) k vm (by omega) (by omega)
    have e6 : bst a z (i + 1) = if mn i (a.1 5) = 0 ∧ nI (pcd 5 i) < (bst a z i).2 ∧ clr a (mn (a.1 5) i) z (a.1 8) = true then (nI i, nI (pcd 5 i)) else bst a z i := rfl
    have no : ¬ (mn i (a.1 5) = 0 ∧ nI (pcd 5 i) < (bst a z i).2) → ∃ vm', b_X12_cuts_66 N (f_X12_cuts_29 N k) vm w (nI z) (bst a z i).1 (nI (a.1 5)) (nI i) = some ((bst a z 32).1, vm') ∧ ScrM vm vm' := fun q => by
      rw [if_neg (fun r => q ⟨r.1, r.2.1⟩)] at e6
      rw [e6] at IH
      unfold b_X12_cuts_66 b_X12_cuts_67
      rw [cu_0 hN]
      unfold b_X12_cuts_137
      rw [if_pos rfl, nI_1]
      obtain ⟨vm', r1, r2⟩ := IH (upi vm 7 (nI (a.1 5) &&& (nI i ^^^ (-1)))) ht
      exact ⟨vm', r1, ScrM.tr ⟨rfl, rfl, rfl, rfl, rfl, rfl⟩ r2⟩
    have yes : mn i (a.1 5) = 0 → nI (pcd 5 i) < (bst a z i).2 → ∃ vm', b_X12_cuts_62 N (f_X12_cuts_29 N k) vm w (nI z) (bst a z i).1 (nI (a.1 5)) (nI i) = some ((bst a z 32).1, vm') ∧ ScrM vm vm' := fun q1 q2 => by
      unfold b_X12_cuts_62 b_X12_cuts_67
      rw [mn_nI _ hw i (by omega)]
      obtain ⟨vm1, s1, s2⟩ := cu_i hN (g := f_X12_cuts_29 N k) hv hm (mn_lt hw i) hz (y2 := (bst a z i).1) (y3 := nI (a.1 5)) (y4 := nI i) (a.1 8) 0 N (upi vm 7 (nI (mn (a.1 5) i))) (by omega) (by omega) ⟨rfl, ht⟩ rfl
      have s1 : f_X12_cuts_82 N (f_X12_cuts_29 N k) N (upi vm 7 (nI (mn (a.1 5) i))) w (nI z) (bst a z i).1 (nI (a.1 5)) (nI i) 1 0 = _ := s1
      have s3 : ScrM vm vm1 := ScrM.tr ⟨rfl, rfl, rfl, rfl, rfl, rfl⟩ s2.sc
      have s4 : SlT vm1 a := by
        unfold SlT
        rw [s2.1]; exact ht
      rw [s1]
      unfold b_X12_cuts_137
      rw [nI_1]
      cases c3 : clr a (mn (a.1 5) i) z (a.1 8)
      · rw [if_pos (by decide)]
        rw [if_neg (fun q => by rw [c3] at q; exact absurd q.2.2 (by decide))] at e6
        rw [e6] at IH
        obtain ⟨vm', r1, r2⟩ := IH vm1 s4
        exact ⟨vm', r1, s3.tr r2⟩
      · rw [if_neg (by decide)]
        rw [if_pos ⟨q1, q2, c3⟩] at e6
        rw [e6] at IH
        obtain ⟨vm', r1, r2⟩ := IH vm1 s4
        exact ⟨vm', r1, s3.tr r2⟩
    show ∃ vm', b_X12_cuts_29 N _ _ _ _ _ _ _ = _ ∧ _
    unfold b_X12_cuts_29
    rw [if_neg (show ¬ (32 : Int32) ≤ nI i from nI_nle2 (a := 32) (by omega) (by decide)), mn_nI i (by omega) _ hw]
    by_cases c1 : mn i (a.1 5) = 0
    · rw [c1, if_pos (show nI 0 = 0 from rfl)]
      have pl := pcd_le i (by omega)
      rcases bst_p a z i (by omega) with hb | ⟨b, hb, hb2⟩
      · rw [hb, if_pos rfl]
        rw [hb] at yes
        exact yes c1 (nI_lt (b := 6) (by omega) (by decide))
      · have pb := pcd_le b hb
        rw [hb2] at yes no ⊢
        rw [if_neg (show ¬ nI b = -1 from by
          intro e
          have := nI_toInt (n := b) (by omega)
          rw [e, show (-1 : Int32).toInt = -1 from by decide] at this
          omega), bits_ms hN (by omega), bs, bits_ms hN hb, bs]
        by_cases c2 : pcd 5 b ≤ pcd 5 i
        · rw [if_pos (nI_le c2 (by omega))]
          exact no (fun q => nI_nlt c2 (by omega) q.2)
        · rw [if_neg (nI_nle2 (by omega) (by omega))]
          exact yes c1 (nI_lt (by omega) (by omega))
    · rw [if_neg (show ¬ nI (mn i (a.1 5)) = 0 from fun q => c1 ((nI_eq (b := 0) (by have := mn_lt (x := i) (by omega) (a.1 5); omega) (by decide)).mp q))]
      exact no (fun q => c1 q.1)
theorem sim_cuts {N : Nat} (hN : 200000 ≤ N) {vob vn : US} {tx : Nat → Int32} {i0 i1 : Option US} {vm : US} {w : Nat → Int32} (hI : Inv vob vn tx i0 i1 vm w) (vd : US) (vds : US) (k0 : Int32) : ∃ rx rm, f_X11_cuts N vob vd vds vn k0 = some rx ∧ f_X12_cuts N vm w k0 = some rm ∧ rx.1 = rm.1 ∧ Inv rx.2.1 vn tx i0 i1 rm.2 w := by
  obtain ⟨a, hv, hx, hm⟩ := hI.1
  have h5 := hv.1
  have hp := pow5 h5
  unfold f_X11_cuts f_X12_cuts
  rw [hs_m (hx.1.trans hm.1.symm)]
  rcases hs_x h5 hx.1 k0 with ⟨g, z, hz, rfl⟩ | g
  · obtain ⟨vd1, sw1, d1⟩ := fc_x hN hv hx (lt32 h5 hz) (2 ^ a.1 0) 0 N vd vds (by omega) (by omega)
    have d1 : f_X0_fewestCuts N vd vn vds (nI z) = _ := d1
    obtain ⟨vm1, t1, t2, t3⟩ := tk_m hN (vm := vm) hv hm
    obtain ⟨vm2, r1, r2⟩ := cu_o hN hv hm (lt32 h5 hz) 32 0 N vm1 (by omega) (by omega) t2.2
    have r1 : f_X12_cuts_29 N N vm1 w (nI z) (-1) (nI (a.1 5)) 0 = _ := r1
    have hh := bst_hi hv z (32 - 2 ^ a.1 0) (by omega)
    rw [show 2 ^ a.1 0 + (32 - 2 ^ a.1 0) = 32 by omega] at hh
    simp only [g, bs, ift, d1, t1, t2.1, r1, hh]
    exact ⟨_, _, rfl, rfl, rfl, hI.scr (t3.tr r2)⟩
  · simp only [g, bs, iff0]
    refine ⟨_, _, rfl, rfl, ?_, ?_⟩
    · rfl
    · exact hI.bad
