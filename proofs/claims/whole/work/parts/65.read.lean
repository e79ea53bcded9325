/-! reading: cuts, all items, the loop -/
theorem wT {v T : Nat} (hv : v < 100) (hT : T ≤ 5) : f_X11_within (nI v) 0 (nI T - 1) = some (decide (v < T)) := by
  unfold f_X11_within
  rw [if_neg (nI_pos (by omega))]
  rcases Nat.eq_zero_or_pos T with rfl | hp
  · rw [if_pos, decide_eq_false (by omega)]
    show nI 0 - nI 1 < nI v
    rw [Int32.lt_iff_toInt_lt, pk_sub_toInt (by omega) (by omega), nI_toInt (by omega)]
    omega
  · rw [show nI T - 1 = nI (T - 1) from pk_sub (a := T) (b := 1) hp]
    by_cases c : v < T
    · rw [if_neg (nI_nlt (by omega) (by omega)), decide_eq_true c]
    · rw [if_pos (nI_lt (by omega) (by omega)), decide_eq_false c]
theorem it_cut {N : Nat} (hN : 200000 ≤ N) {tx : Nat → Int32} {B : Nat → Nat} {n p s e k : Nat} {vr vm vd : US} {nx : Nat → Int32} (hT : TB tx B n) (tok : Tok B n p s e k) (hX : XT vr B n s e k) (hM : MT vm B s e k) (hB : MB vm B n) (hD : Dr vd nx) : ∃ b vr' vd' vm' nx', f_X5_takesCut N vr vd tx = some (b, vr', vd') ∧ f_X12_readsCut N vm nx = some (b, vm', nx') ∧ IR B n vr vm e b vr' vd' vm' nx' := by
  obtain ⟨a, hv, hx, hm⟩ := id hD
  have h5 := hv.1
  have eX := hx.1
  have eM : nx 0 = nI (a.1 0) := (ext_lt (by decide)).symm.trans hm.1
  obtain ⟨vm0, g1, ⟨p0, p5, p4, hB0, s1, e1, k1, tok1, mt1⟩, fr0⟩ := go_x hN tok hX hM hB
  have hbd := tok1.bd
  obtain ⟨vr1, q1, q2, q3, q4⟩ := nt_x hN hT tok1 p5 p4
  unfold f_X5_takesCut f_X5_takesNumber f_X12_readsCut
  rw [q1, bs, q2.2.2.1, g1, bs, mt1.2.2.1]
  by_cases ck2 : k1 = 2
  · have e2 : nI k1 = 2 := by rw [ck2]; rfl
    subst ck2
    have hv1 := tok1.v
    have z0 : ¬ ((0 : Int32) < 0 ∨ 52 ≤ (0 : Int32).toNatClampNeg) := by decide
    have z4 : ¬ ((0 : Int32) < 0 ∨ 4 ≤ (0 : Int32).toNatClampNeg) := by decide
    have f5 : (1 : Int32) + 5 * nI (tv B s1 e1) + 4 = nI (5 + 5 * tv B s1 e1) := by
      rw [show (1 : Int32) = nI 1 from rfl, show (5 : Int32) = nI 5 from rfl, show (4 : Int32) = nI 4 from rfl, pk_mul, nI_add, nI_add]
      congr 1
      omega
    rw [if_pos e2, if_pos e2, q2.2.2.2.1 rfl, mt1.2.2.2 rfl, eX, wT hv1 h5, bs, if_neg z0, zc.1, eM, f5]
    by_cases cT : tv B s1 e1 < a.1 0
    · have mw := (hm.2.2.2.2.2.2.1 (tv B s1 e1) cT).2.2.2.2
      have mw : nx (5 + 5 * tv B s1 e1) = nI (a.1 5 / 2 ^ tv B s1 e1 % 2) := (ext_lt (by omega)).symm.trans mw
      have hh := has_x (wh := a.1 5) (t := tv B s1 e1) (lt32 h5 hv.2.1) (by omega)
      rw [decide_eq_true cT, ift, if_neg (show ¬ ((0 : Int32) < 0 ∨ 4 ≤ 0) by decide), bs, if_neg (nI_nle2 (a := a.1 0) cT (by omega)), ck_in (by omega) (by decide), ck_in (by omega) (by decide), nI_clamp (by omega), mw]
      simp only [ift]
      rw [if_neg (show ¬ ((0 : Int32) < 0 ∨ 4 ≤ 0) by decide), if_neg (show ¬ ((0 : Int32) < 0 ∨ 4 ≤ 0) by decide)]
      have e8 : (upa vr1 8 0 (nI (tv B s1 e1))).2.2 8 0 = nI (tv B s1 e1) := pk_us (f := vr1.2.2 8) (k := 0) (x := nI (tv B s1 e1))
      rw [e8, hx.2.1, hh, bs]
      rcases half2 (a.1 5) (tv B s1 e1) with q | q
      · rw [q, if_pos (show nI 0 = 0 from rfl), show decide (0 = 1) = false from rfl, iff0]
        exact ⟨_, _, _, _, _, rfl, rfl, ir_f q3 fr0 (q2.1.trans mt1.1.symm)⟩
      · rw [q, if_neg (show ¬ nI 1 = 0 by decide), show decide (1 = 1) = true from rfl, ift]
        obtain ⟨s2, e3, k2, tok2⟩ := tok_ex B (n := n) (p := e1) hbd.2.2.1
        obtain ⟨vm2, gg1, gg2, gg3⟩ := goon hN hB0 mt1 tok1 tok2
        rw [gg1, bs]
        have gb : f_X11_has (vd.1 5) (nI (tv B s1 e1)) = some true := by rw [hx.2.1, hh, q]; rfl
        have hd := dr_cut hN hD (t := tv B s1 e1) (T := a.1 0) h5 cT eX eM gb (by rw [mw, q]; decide)
        rw [hx.2.1] at hd
        refine ⟨_, _, _, _, _, rfl, rfl, ir_t (p' := e1) q3 (fr0.tr gg3.fv) hd (by omega) ⟨hbd.2.2.1, q2.2.1, q2.2.2.2.2, gg3.fv.mb hB0, s2, e3, k2, tok2, gg2⟩⟩
    · rw [decide_eq_false cT, iff0, bs, if_pos (nI_le (by omega) (by omega))]
      simp only [iff0]
      exact ⟨_, _, _, _, _, rfl, rfl, ir_f q3 fr0 (q2.1.trans mt1.1.symm)⟩
  · have e2 : ¬ nI k1 = 2 := fun q => ck2 ((nI_eq (b := 2) (by omega) (by decide)).mp q)
    rw [if_neg e2, if_neg e2, bs]
    simp only [iff0]
    exact ⟨_, _, _, _, _, rfl, rfl, ir_f q3 fr0 (q2.1.trans mt1.1.symm)⟩
theorem it_all {N : Nat} (hN : 200000 ≤ N) {tx : Nat → Int32} {B : Nat → Nat} {n p s e k : Nat} {vr vm vd : US} {nx : Nat → Int32} (hT : TB tx B n) (tok : Tok B n p s e k) (hX : XT vr B n s e k) (hM : MT vm B s e k) (hB : MB vm B n) (hD : Dr vd nx) : ∃ b vr' vd' vm' nx', f_X5_takesItem N vr vd tx = some (b, vr', vd') ∧ f_X12_readsItem N vm nx = some (b, vm', nx') ∧ IR B n vr vm e b vr' vd' vm' nx' := by
  have hbd := tok.bd
  obtain ⟨m0, m1, m2, m3, m4⟩ := iw_m hN hB hM tok
  have x0 := iw_x hN hT (k := 0) (by decide) hX hbd.2.1 hbd.2.2.1
  have x1 := iw_x hN hT (k := 1) (by decide) hX hbd.2.1 hbd.2.2.1
  have x2 := iw_x hN hT (k := 2) (by decide) hX hbd.2.1 hbd.2.2.1
  have x3 := iw_x hN hT (k := 3) (by decide) hX hbd.2.1 hbd.2.2.1
  have x4 := iw_x hN hT (k := 4) (by decide) hX hbd.2.1 hbd.2.2.1
  unfold f_X5_takesItem f_X12_readsItem
  simp only [m0, m1, m2, m3, m4, x0, x1, x2, x3, x4, bs]
  cases w0 : wdB B s e 0
  · simp only [iff0]
    cases w1 : wdB B s e 1
    · simp only [iff0]
      cases w2 : wdB B s e 2
      · simp only [iff0]
        cases w3 : wdB B s e 3
        · simp only [iff0]
          cases w4 : wdB B s e 4
          · simp only [iff0]
            exact ⟨_, _, _, _, _, rfl, rfl, ir_f rfl (FrV.rf _) (hX.1.trans hM.1.symm)⟩
          · simp only [ift]
            obtain ⟨b, vr', vd', vm', nx', r1, r2, r3⟩ := it_rule hN hT tok hX hM hB hD
            simp only [r1, r2, bs]
            cases b
            · simp only [iff0]; exact ⟨_, _, _, _, _, rfl, rfl, r3⟩
            · simp only [ift]; exact ⟨_, _, _, _, _, rfl, rfl, r3⟩
        · simp only [ift]
          obtain ⟨b, vr', vd', vm', nx', r1, r2, r3⟩ := it_errand hN hT tok hX hM hB hD
          simp only [r1, r2, bs]
          exact ⟨_, _, _, _, _, rfl, rfl, r3⟩
      · simp only [ift]
        obtain ⟨vm0, g1, P0, fr0⟩ := go_x hN tok hX hM hB
        obtain ⟨b1, vr1, vm1, q1, r1, s1, f1, t1, u1⟩ := pn_x hN hT P0 (i := 0) (by decide) 0 9
        have q1 : f_X5_takesNumber N vr tx 0 0 9 = some (b1, vr1) := q1
        have r1 : f_X12_takes N vm0 0 0 9 = some (b1, vm1) := r1
        unfold f_X5_takesDamp
        simp only [g1, q1, r1, bs]
        rw [if_neg (show ¬ ((0 : Int32) < 0 ∨ 4 ≤ (0 : Int32).toNatClampNeg) by decide), if_neg (show ¬ ((26 : Int32) < 0 ∨ 52 ≤ (26 : Int32).toNatClampNeg) by decide), if_neg (show ¬ ((0 : Int32) < 0 ∨ 4 ≤ (0 : Int32).toNatClampNeg) by decide), zc.1, zc.2.2.2.2.2.2]
        cases b1
        · simp only [iff0, bs]
          exact ⟨_, _, _, _, _, rfl, rfl, ir_f s1 (fr0.tr f1) (t1 rfl)⟩
        · simp only [ift, bs]
          obtain ⟨⟨p1, l1, P1⟩, v1, y1, -, -⟩ := u1 rfl
          refine ⟨_, _, _, _, _, rfl, rfl, ir_t (p' := p1) s1 (fr0.tr f1) ?_ (by omega) P1⟩
          rw [← y1]
          exact dr_damp hN hD v1
    · simp only [ift]
      obtain ⟨b, vr', vd', vm', nx', r1, r2, r3⟩ := it_cut hN hT tok hX hM hB hD
      simp only [r1, r2, bs]
      exact ⟨_, _, _, _, _, rfl, rfl, r3⟩
  · simp only [ift]
    obtain ⟨b, vr', vd', vm', nx', r1, r2, r3⟩ := it_thing hN hT tok hX hM hB hD
    simp only [r1, r2, bs]
    exact ⟨_, _, _, _, _, rfl, rfl, r3⟩
theorem rd_l {N : Nat} (hN : 200000 ≤ N) {tx : Nat → Int32} {B : Nat → Nat} {n : Nat} {w : Nat → Int32} (hT : TB tx B n) : ∀ m p it k K vr vd vm nx, n - p < m → m ≤ k → m ≤ K → it ≤ p → vr.1 1 = nI it → Pp B n vr vm p → Dr vd nx → ∃ b vr' vd' vm' nx', f_X5_takes_34 N k vr tx vd (nI it) = some (b, vr', vd') ∧ FrV vm vm' ∧ ((b = false ∧ f_X12_read_28 N K vm nx w (nI it) = some ((-10) - vr'.1 2, vm', nx', w)) ∨ (b = true ∧ f_X12_read_28 N K vm nx w (nI it) = f_X12_read_70 N N vm' nx' w (vr'.1 1) 0 ∧ Dr vd' nx')) := by
  have h200 := hT.1
  intro m
  induction m with
  | zero => intro p it k K vr vd vm nx h; omega
  | succ m ih =>
    intro p it k K vr vd vm nx hm hk hK hit e1 hP hD
    obtain ⟨k, rfl⟩ : ∃ j, k = j + 1 := ⟨k - 1, by omega⟩
    obtain ⟨K, rfl⟩ : ∃ j, K = j + 1 := ⟨K - 1, by omega⟩
    obtain ⟨p0, p5, p4, hB, s, e, kk, tok, mt⟩ := hP
    have hbd := tok.bd
    obtain ⟨vr1, q1, q2, q3, q4⟩ := nt_x hN hT tok p5 p4
    show ∃ b vr' vd' vm' nx', b_X5_takes_34 N _ _ _ _ _ = _ ∧ _ ∧ ((b = false ∧ b_X12_read_28 N _ _ _ _ _ = _) ∨ (b = true ∧ b_X12_read_28 N _ _ _ _ _ = _ ∧ _))
    unfold b_X5_takes_34 b_X12_read_28
    rw [p4, if_neg (nI_nlt (by omega) (by omega)), q1, bs, q2.2.2.1, mt.2.2.1]
    by_cases c0 : kk = 0
    · rw [if_pos (show nI kk = 0 by rw [c0]; rfl), if_pos (show nI kk = 0 by rw [c0]; rfl)]
      exact ⟨true, vr1, vd, vm, nx, rfl, FrV.rf _, Or.inr ⟨rfl, by rw [q3, e1], hD⟩⟩
    · rw [if_neg (nI_ne0 (Nat.pos_of_ne_zero c0) (by omega)), if_neg (nI_ne0 (Nat.pos_of_ne_zero c0) (by omega))]
      obtain ⟨b, vr2, vd2, vm2, nx2, r1, r2, r3, r4, r5, r6⟩ := it_all hN hT tok q2 mt hB hD
      rw [r1, r2, bs, bs]
      cases b
      · simp only [iff0]
        exact ⟨false, vr2, vd2, vm2, nx2, rfl, r4, Or.inl ⟨rfl, by rw [r5 rfl]⟩⟩
      · simp only [ift]
        obtain ⟨hD2, p', l1, pp0, pp5, pp4, hB2, s2, e2, k2, tok2, mt2⟩ := r6 rfl
        have hbd2 := tok2.bd
        obtain ⟨vr3, t1, t2, t3, t4⟩ := nt_x hN hT tok2 pp5 pp4
        unfold f_X5_takesEndOfItem
        rw [t1, bs, t2.2.2.1, mt2.2.2.1]
        by_cases c3 : k2 = 3
        · have e3 : nI k2 = 3 := by rw [c3]; rfl
          rw [if_pos e3, if_pos e3, bs]
          obtain ⟨s3, e4, k3, tok3⟩ := tok_ex B (n := n) (p := e2) hbd2.2.2.1
          obtain ⟨vm3, g1, g2, g3⟩ := goon hN hB2 mt2 tok2 tok3
          rw [g1, bs]
          simp only [ift]
          have hlt := hbd.2.2.2.2.1 c0
          have hlt2 := hbd2.2.2.2.2.1 (by omega)
          have e5 : vr3.1 1 = nI it := t3.trans (r3.trans (q3.trans e1))
          rw [nI_1, e5, nI_1]
          obtain ⟨b, vr', vd', vm', nx', h1, h2, h3⟩ := ih e2 (it + 1) k K (upi vr3 1 (nI (it + 1))) vd2 vm3 nx2 (by omega) (by omega) (by omega) (by omega) rfl ⟨hbd2.2.2.1, t2.2.1, t2.2.2.2.2, g3.fv.mb hB2, s3, e4, k3, tok3, g2⟩ hD2
          exact ⟨b, vr', vd', vm', nx', h1, (r4.tr g3.fv).tr h2, h3⟩
        · have e3 : ¬ nI k2 = 3 := fun q => c3 ((nI_eq (b := 3) (by omega) (by decide)).mp q)
          rw [if_neg e3, if_neg e3, bs]
          simp only [iff0]
          exact ⟨false, vr3, vd2, vm2, nx2, rfl, r4, Or.inl ⟨rfl, by rw [mt2.1, t2.1]⟩⟩
theorem rd_0 {N : Nat} {vm : US} {w : Nat → Int32} : ∀ d i K nx, i + d = 52 → d < K → (∀ j, j < i → nx j = 0) → ∃ nx', f_X12_read_2 N K vm nx w (nI i) = (f_X12_look N vm 0).bind (fun z => f_X12_read_28 N N z nx' w 0) ∧ ∀ j, j < 52 → nx' j = 0 := by
  intro d
  induction d with
  | zero =>
    intro i K nx hi hK h
    obtain ⟨K, rfl⟩ : ∃ j, K = j + 1 := ⟨K - 1, by omega⟩
    have : i = 52 := by omega
    subst this
    refine ⟨nx, ?_, h⟩
    show b_X12_read_2 N _ _ _ _ _ = _
    unfold b_X12_read_2
    rw [if_pos (by decide)]
  | succ d ih =>
    intro i K nx hi hK h
    obtain ⟨K, rfl⟩ : ∃ j, K = j + 1 := ⟨K - 1, by omega⟩
    show ∃ nx', b_X12_read_2 N _ _ _ _ _ = _ ∧ _
    unfold b_X12_read_2
    rw [if_neg (show ¬ (52 : Int32) ≤ nI i from nI_nle2 (a := 52) (by omega) (by decide)), ck_in (by omega) (by decide), nI_clamp (by omega), nI_1]
    refine ih (i + 1) K _ (by omega) (by omega) (fun j hj => ?_)
    by_cases c : j = i
    · rw [c, pk_us]
    · rw [pk_un c]; exact h j (by omega)
theorem rd_70 {N : Nat} {vm : US} {nx : Nat → Int32} {y : Int32} : ∀ d i K w, i + d = 52 → d < K → (∀ j, j < i → w j = nx j) → ∃ w', f_X12_read_70 N K vm nx w y (nI i) = some (y, vm, nx, w') ∧ (∀ j, j < 52 → w' j = nx j) ∧ w' 52 = 0 := by
  intro d
  induction d with
  | zero =>
    intro i K w hi hK h
    obtain ⟨K, rfl⟩ : ∃ j, K = j + 1 := ⟨K - 1, by omega⟩
    have : i = 52 := by omega
    subst this
    refine ⟨upd w 52 0, ?_, fun j hj => ?_, pk_us⟩
    · show b_X12_read_70 N _ _ _ _ _ _ = _
      unfold b_X12_read_70
      rw [if_pos (by decide), if_neg (by decide)]
      rfl
    · rw [pk_un (by omega)]; exact h j hj
  | succ d ih =>
    intro i K w hi hK h
    obtain ⟨K, rfl⟩ : ∃ j, K = j + 1 := ⟨K - 1, by omega⟩
    show ∃ w', b_X12_read_70 N _ _ _ _ _ _ = _ ∧ _
    unfold b_X12_read_70
    rw [if_neg (show ¬ (52 : Int32) ≤ nI i from nI_nle2 (a := 52) (by omega) (by decide)), ck_in (by omega) (by decide), ck_in (by omega) (by decide), nI_clamp (by omega), nI_1]
    refine ih (i + 1) K _ (by omega) (by omega) (fun j hj => ?_)
    by_cases c : j = i
    · rw [c, pk_us]
    · rw [pk_un c]; exact h j (by omega)
theorem dr_rm {a : AV} {nx w' : Nat → Int32} (hv : Valid a) (hm : RM (ext nx) a) (h : ∀ j, j < 52 → w' j = nx j) (h2 : w' 52 = 0) : RM w' a := by
  obtain ⟨m0, m1, m2, m3, m4, m5, m6, m7, m8, m9⟩ := hm
  have h5 := hv.1
  have h8 := hv.2.2.2.2.1
  have h11 := hv.2.2.2.2.2.1
  have h15 := hv.2.2.2.2.2.2.1
  have e15 : a.1 15 = 0 := by
    have : nI 0 = nI (a.1 15) := m5
    have := (nI_eq (by decide) (by omega)).mp this
    omega
  have g : ∀ j, j < 52 → w' j = ext nx j := fun j hj => (h j hj).trans (ext_lt hj).symm
  refine ⟨(g 0 (by decide)).trans m0, (g 26 (by decide)).trans m1, (g 27 (by decide)).trans m2, (g 28 (by decide)).trans m3, (g 39 (by decide)).trans m4, by rw [h2, e15]; rfl, fun i hi => ?_, fun i hi => ?_, fun i hi => ?_, fun i hi => by omega⟩
  · rw [g _ (by omega), g _ (by omega), g _ (by omega), g _ (by omega), g _ (by omega)]
    exact m6 i hi
  · rw [g _ (by omega), g _ (by omega)]
    exact m7 i hi
  · rw [g _ (by omega), g _ (by omega), g _ (by omega)]
    exact m8 i hi
theorem dr_0 {vdr : US} {nx : Nat → Int32} (h : ∀ j, j < 52 → nx j = 0) : ∃ vd, f_X9_becomeEmpty vdr = some vd ∧ Dr vd nx := by
  refine ⟨_, rfl, (fun _ => 0, fun _ _ => 0), ?_, ?_, ?_⟩
  · exact ⟨by decide, by decide, by decide, by decide, by decide, by decide, by decide, fun i hi => absurd hi (Nat.not_lt_zero i), fun i hi => absurd hi (Nat.not_lt_zero i), fun i hi => absurd hi (Nat.not_lt_zero i), fun i hi => absurd hi (Nat.not_lt_zero i)⟩
  · exact ⟨rfl, rfl, rfl, rfl, rfl, rfl, rfl, fun i hi => absurd hi (Nat.not_lt_zero i), fun i hi => absurd hi (Nat.not_lt_zero i), fun i hi => absurd hi (Nat.not_lt_zero i), fun i hi => absurd hi (Nat.not_lt_zero i)⟩
  · exact ⟨(ext_lt (by decide)).trans (h 0 (by decide)), (ext_lt (by decide)).trans (h 26 (by decide)), (ext_lt (by decide)).trans (h 27 (by decide)), (ext_lt (by decide)).trans (h 28 (by decide)), (ext_lt (by decide)).trans (h 39 (by decide)), rfl, fun i hi => absurd hi (Nat.not_lt_zero i), fun i hi => absurd hi (Nat.not_lt_zero i), fun i hi => absurd hi (Nat.not_lt_zero i), fun i hi => absurd hi (Nat.not_lt_zero i)⟩
theorem sim_read {N : Nat} (hN : 200000 ≤ N) {vob vn : US} {tx : Nat → Int32} {i0 i1 : Option US} {vm : US} {w : Nat → Int32} (hI : Inv vob vn tx i0 i1 vm w) (vr : US) (vdr : US) (nx : Nat → Int32)  : ∃ rx rm, f_X11_read N vob vn vr vdr tx = some rx ∧ f_X12_read N vm nx w = some rm ∧ rx.1 = rm.1 ∧ Inv vob rx.2.1 tx i0 i1 rm.2.1 rm.2.2.2 := by
  obtain ⟨n, hn, e3, e17, htx⟩ := hI.2.2.2.1
  have hb : ∀ k, k < n → tx k = nI ((tx k).toNatClampNeg) ∧ (tx k).toNatClampNeg < 256 := by
    intro k hk
    obtain ⟨-, j, j1, j2⟩ := htx k hk
    rw [j2, nI_clamp (by omega)]
    exact ⟨rfl, j1⟩
  have hT : TB tx (fun k => (tx k).toNatClampNeg) n := ⟨hn, hb⟩
  have hB : MB vm (fun k => (tx k).toNatClampNeg) n := ⟨hn, e17, fun k hk => ⟨(htx k hk).1.symm.trans (hb k hk).1, (hb k hk).2⟩⟩
  obtain ⟨nx0, z1, z2⟩ := rd_0 (N := N) (vm := vm) (w := w) 52 0 N nx (by omega) (by omega) (fun j hj => absurd hj (Nat.not_lt_zero j))
  have z1 : f_X12_read N vm nx w = _ := z1
  obtain ⟨s, e, k, tok⟩ := tok_ex (fun k => (tx k).toNatClampNeg) (n := n) (p := 0) (Nat.zero_le _)
  obtain ⟨vm1, l1, l2, l3⟩ := lkm hN hB tok
  have l1 : f_X12_look N vm 0 = some vm1 := l1
  obtain ⟨vd, d1, d2⟩ := dr_0 (vdr := vdr) z2
  have el : (if 200 < vob.1 3 then 200 else vob.1 3) = nI n := by
    rw [e3, if_neg (show ¬ (200 : Int32) < nI n from nI_nlt (a := 200) hn (by decide))]
  obtain ⟨b, vr', vd', vm', nx', r1, r2, r3⟩ := rd_l hN (w := w) hT (n + 1) 0 0 N N (upi (upi (upi vr 4 (nI n)) 5 0) 1 0) vd vm1 nx0 (by omega) (by omega) (by omega) (by omega) rfl ⟨Nat.zero_le _, rfl, rfl, l3.fv.mb hB, s, e, k, tok, l2⟩ d2
  have r1 : f_X5_takes_34 N N (upi (upi (upi vr 4 (nI n)) 5 0) 1 0) tx vd 0 = some (b, vr', vd') := r1
  have hs : ScrM vm vm' := l3.fv.sc.tr r2.sc
  unfold f_X11_read f_X5_takes
  rw [el, bnd_eq, bnd_eq, d1, bs, r1, bs, z1, l1, bs]
  rcases r3 with ⟨rfl, m1⟩ | ⟨rfl, m1, m2⟩
  · have m1 : f_X12_read_28 N N vm1 nx0 w 0 = _ := m1
    rw [m1]
    simp only [iff0]
    exact ⟨_, _, rfl, rfl, rfl, hI.scr hs⟩
  · have m1 : f_X12_read_28 N N vm1 nx0 w 0 = _ := m1
    obtain ⟨a, hv, hx, hm⟩ := m2
    obtain ⟨res, b1, b2⟩ := bl_x (v := vn) hv hx
    obtain ⟨w', c1, c2, c3⟩ := rd_70 (N := N) (vm := vm') (nx := nx') (y := vr'.1 1) 52 0 N w (by omega) (by omega) (fun j hj => absurd hj (Nat.not_lt_zero j))
    have c1 : f_X12_read_70 N N vm' nx' w (vr'.1 1) 0 = _ := c1
    rw [m1, c1]
    simp only [ift, b1, bs]
    exact ⟨_, _, rfl, rfl, rfl, (hI.now ⟨a, hv, b2, dr_rm hv hm c2 c3⟩).scr hs⟩
