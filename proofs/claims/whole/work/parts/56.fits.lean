/-! slacks: rows searched -/
theorem od_pfx {d r m i : Nat} (hi : i < d) : od_d 10 (d + r) m i = od_d 10 d (m / 10 ^ r) i := by
  unfold od_d
  rw [Nat.div_div_eq_div_mul, ← Nat.pow_add, show r + (d - 1 - i) = d + r - 1 - i by omega]
theorem od_9 (d c i : Nat) : od_d 10 d c i ≤ 9 := by
  unfold od_d
  omega
def sl_QM (a : AV) (W : Nat) (LM : Nat → Nat) (d c : Nat) (Q : Nat → Nat) : Prop := ∀ t, d ≤ t → t < a.1 0 → Q t < 1024 ∧ ∀ x, (Q t).testBit x = true ↔ ((LM t).testBit x = true ∧ ∀ i, i < d → sl_pr a W (a.1 11) i t (od_d 10 d c i + x) = true)
def sl_QV (vs : US) (a : AV) (d : Nat) (Q : Nat → Nat) : Prop := ∀ t, d ≤ t → t < a.1 0 → vs.2.2 7 (d * 5 + t) = nI (Q t)
def FrQ (vs vs' : US) (d : Nat) : Prop := vs'.1 = vs.1 ∧ (∀ s, s < 7 → vs'.2.2 s = vs.2.2 s) ∧ (∀ x, x < (d + 1) * 5 → vs'.2.2 7 x = vs.2.2 7 x)
theorem FrQ.rf (x : US) (d : Nat) : FrQ x x d := ⟨rfl, fun _ _ => rfl, fun _ _ => rfl⟩
theorem FrQ.tr {x y z : US} {d : Nat} (h : FrQ x y d) (g : FrQ y z d) : FrQ x z d := ⟨g.1.trans h.1, fun s hs => (g.2.1 s hs).trans (h.2.1 s hs), fun s hs => (g.2.2 s hs).trans (h.2.2 s hs)⟩
theorem FrQ.fs {x y : US} {d : Nat} (h : FrQ x y d) : FrS x y := ⟨h.1, h.2.1⟩
theorem FrQ.qv {x y : US} {d : Nat} (h : FrQ x y d) {a : AV} {Q : Nat → Nat} (g : sl_QV x a d Q) (h5 : a.1 0 ≤ 5) : sl_QV y a d Q := by
  intro t h1 h2
  rw [h.2.2 (d * 5 + t) (by omega)]
  exact g t h1 h2
def sl_QN (a : AV) (W d s : Nat) (Q : Nat → Nat) (t : Nat) : Nat := Q t &&& (bsum (sl_pr a W (a.1 11) d t) 19 / 2 ^ s)
theorem ls_x {N : Nat} {a : AV} (hv : Valid a) {W d s : Nat} (hs : s ≤ 9) {Q : Nat → Nat} (hQ : ∀ t, d ≤ t → t < a.1 0 → Q t < 1024) : ∀ e t k vs, t + e = a.1 0 → e < k → d < t → vs.1 1 = nI (a.1 0) → XP vs a (sl_pr a W (a.1 11)) → sl_QV vs a d Q → (∀ x, d < x → x < t → vs.2.2 7 ((d + 1) * 5 + x) = nI (sl_QN a W d s Q x)) → ∃ b vs', f_X6_leavesSome_4 N k vs (nI d) (nI s) (nI t) = some (b, vs') ∧ FrQ vs vs' d ∧ vs'.2.2 8 = vs.2.2 8 ∧ ((b = false ∧ ∃ x, d < x ∧ x < a.1 0 ∧ sl_QN a W d s Q x = 0) ∨ (b = true ∧ ∀ x, d < x → x < a.1 0 → vs'.2.2 7 ((d + 1) * 5 + x) = nI (sl_QN a W d s Q x))) := by
  have h5 := hv.1
  intro e
  induction e with
  | zero =>
    intro t k vs ht hk hd h1 hP hV hN2
    obtain ⟨k, rfl⟩ : ∃ j, k = j + 1 := ⟨k - 1, by omega⟩
    have : t = a.1 0 := by omega
    subst this
    refine ⟨true, vs, ?_, FrQ.rf _ _, rfl, Or.inr ⟨rfl, hN2⟩⟩
    show b_X6_leavesSome_4 N _ _ _ _ _ = _
    unfold b_X6_leavesSome_4
    rw [h1, if_pos (nI_le (Nat.le_refl _) (by omega))]
  | succ e ih =>
    intro t k vs ht hk hd h1 hP hV hN2
    obtain ⟨k, rfl⟩ : ∃ j, k = j + 1 := ⟨k - 1, by omega⟩
    have ht2 : t < a.1 0 := by omega
    have hb := bs_lt (sl_pr a W (a.1 11) d t)
    have hdl := Nat.div_le_self (bsum (sl_pr a W (a.1 11) d t) 19) (2 ^ s)
    have hq := hQ t (by omega) ht2
    have ha : sl_QN a W d s Q t ≤ Q t := Nat.and_le_left
    have eq : nI (Q t) &&& (nI (bsum (sl_pr a W (a.1 11) d t) 19) >>> (nI s &&& 31)) = nI (sl_QN a W d s Q t) := by
      rw [bw_shr hb (by omega), bw_and (by omega) (by omega)]; rfl
    show ∃ b vs', b_X6_leavesSome_4 N _ _ _ _ _ = _ ∧ _
    unfold b_X6_leavesSome_4
    rw [h1, if_neg (nI_nle2 (a := a.1 0) ht2 (by omega)), nI_1, ix5, ix5, ck_in (n := 25) (by omega) (by decide), ck_in (n := 25) (by omega) (by decide), ck_in (n := 25) (by omega) (by decide), nI_clamp (n := d * 5 + t) (by omega), nI_clamp (n := (d + 1) * 5 + t) (by omega), hV t (by omega) ht2, hP d t (by omega) ht2 (by omega), eq, nI_1]
    by_cases c : sl_QN a W d s Q t = 0
    · rw [if_pos (by rw [c]; rfl)]
      exact ⟨false, vs, rfl, FrQ.rf _ _, rfl, Or.inl ⟨rfl, t, hd, ht2, c⟩⟩
    · rw [if_neg (nI_ne0 (Nat.pos_of_ne_zero c) (by omega))]
      have fr : FrQ vs (upa vs 7 ((d + 1) * 5 + t) (nI (sl_QN a W d s Q t))) d := ⟨rfl, fun z hz => if_neg (by omega), fun x hx => by
        show upd (vs.2.2 7) _ _ _ = _
        rw [pk_un (by omega)]⟩
      obtain ⟨b, vs', r1, r2, r3, r4⟩ := ih (t + 1) k (upa vs 7 ((d + 1) * 5 + t) (nI (sl_QN a W d s Q t))) (by omega) (by omega) (by omega) h1 (fr.fs.xp hP) (fr.qv hV h5) (fun x h2 h3 => by
        show upd (vs.2.2 7) _ _ _ = _
        by_cases cx : x = t
        · rw [cx, pk_us]
        · rw [pk_un (by omega)]; exact hN2 x h2 (by omega))
      exact ⟨b, vs', r1, fr.tr r2, r3, r4⟩
theorem tb_10 {M x : Nat} (h : M < 1024) (hx : M.testBit x = true) : x < 10 := by
  rcases Nat.lt_or_ge x 10 with q | q
  · exact q
  · have h2 : M < 2 ^ x := Nat.lt_of_lt_of_le h (Nat.pow_le_pow_right (n := 2) (by decide) q)
    rw [Nat.testBit_lt_two_pow h2] at hx
    exact absurd hx (by decide)
def SG (a : AV) (W m : Nat) : Bool := sl_gd a W (od_d 10 (a.1 0) m)
def SR (a : AV) (W lo hi : Nat) (b : Bool) (vs : US) : Prop := (b = false ∧ ∀ m, lo ≤ m → m < hi → SG a W m = false) ∨ (b = true ∧ ∃ m, lo ≤ m ∧ m < hi ∧ SG a W m = true ∧ (∀ x, lo ≤ x → x < m → SG a W x = false) ∧ ∀ i, i < a.1 0 → vs.2.2 8 i = nI (od_d 10 (a.1 0) m i))
theorem ff_x {N : Nat} (hN : 200000 ≤ N) {a : AV} (hv : Valid a) {W : Nat} {LM : Nat → Nat} (hcb : sl_cb a W (a.1 11) = true) (hL : ∀ t, t < a.1 0 → LM t < 1024) (hS : SN a W LM) : ∀ r d c k vs Q, d + r = a.1 0 → r < k → vs.1 1 = nI (a.1 0) → XP vs a (sl_pr a W (a.1 11)) → (∀ i j, i < j → j < d → sl_pr a W (a.1 11) i j (od_d 10 d c i + od_d 10 d c j) = true) → sl_QM a W LM d c Q → sl_QV vs a d Q → (∀ i, i < d → vs.2.2 8 i = nI (od_d 10 d c i)) → ∃ b vs', f_X6_fitsFrom N k vs (nI d) = some (b, vs') ∧ FrQ vs vs' d ∧ (∀ i, i < d → vs'.2.2 8 i = vs.2.2 8 i) ∧ SR a W (c * 10 ^ r) ((c + 1) * 10 ^ r) b vs' := by
  have h5 := hv.1
  intro r
  induction r with
  | zero =>
    intro d c k vs Q hd hk h1 hP hC hQ hV hr
    obtain ⟨k, rfl⟩ : ∃ j, k = j + 1 := ⟨k - 1, by omega⟩
    have : d = a.1 0 := by omega
    subst this
    refine ⟨true, vs, ?_, FrQ.rf _ _, fun _ _ => rfl, Or.inr ⟨rfl, c, ?_, ?_, ?_, fun x h2 h3 => ?_, hr⟩⟩
    · show b_X6_fitsFrom N _ _ _ = _
      unfold b_X6_fitsFrom
      rw [h1, if_neg (nI_nlt (Nat.le_refl _) (by omega))]
    · rw [Nat.pow_zero, Nat.mul_one]; exact Nat.le_refl _
    · rw [Nat.pow_zero, Nat.mul_one]; omega
    · unfold SG
      refine (sl_iff hv W _).mpr ⟨hcb, fun i j hi hj hij => ?_⟩
      rcases Nat.lt_or_ge i j with q | q
      · exact hC i j q hj
      · rw [sl_pr_s, Nat.add_comm]
        exact hC j i (by omega) hi
    · rw [Nat.pow_zero, Nat.mul_one] at h2; omega
  | succ r ih =>
    intro d c k vs Q hd hk h1 hP hC hQ hV hr
    obtain ⟨k, rfl⟩ : ∃ j, k = j + 1 := ⟨k - 1, by omega⟩
    have hd2 : d < a.1 0 := by omega
    have hpw : 0 < 10 ^ r := Nat.pow_pos (by decide)
    have hE1 : ∀ e, (c * 10 + e) * 10 ^ r + 10 ^ r = (c * 10 + (e + 1)) * 10 ^ r := by
      intro e
      rw [← Nat.add_assoc, Nat.succ_mul]
    have hE0 : c * 10 ^ (r + 1) = (c * 10 + 0) * 10 ^ r := by
      rw [Nat.pow_succ, Nat.mul_comm (10 ^ r), ← Nat.mul_assoc, Nat.add_zero]
    have hE2 : (c + 1) * 10 ^ (r + 1) = (c * 10 + 10) * 10 ^ r := by
      rw [Nat.pow_succ, Nat.mul_comm (10 ^ r), ← Nat.mul_assoc, Nat.succ_mul]
    have hmo : ∀ e f, e ≤ f → (c * 10 + e) * 10 ^ r ≤ (c * 10 + f) * 10 ^ r := fun e f h => Nat.mul_le_mul_right _ (by omega)
    have key : ∀ e s K vs, s + e = 10 → e < K → vs.1 1 = nI (a.1 0) → XP vs a (sl_pr a W (a.1 11)) → sl_QV vs a d Q → (∀ i, i < d → vs.2.2 8 i = nI (od_d 10 d c i)) → (∀ m, (c * 10 + 0) * 10 ^ r ≤ m → m < (c * 10 + s) * 10 ^ r → SG a W m = false) → ∃ b vs', f_X6_fitsFrom_23 N (f_X6_fitsFrom N k) K vs (nI d) (nI (Q d)) (nI s) = some (b, vs') ∧ FrQ vs vs' d ∧ (∀ i, i < d → vs'.2.2 8 i = vs.2.2 8 i) ∧ SR a W ((c * 10 + 0) * 10 ^ r) ((c * 10 + 10) * 10 ^ r) b vs' := by
      intro e
      induction e with
      | zero =>
        intro s K vs hs hK h1 hP hV hr hno
        obtain ⟨K, rfl⟩ : ∃ j, K = j + 1 := ⟨K - 1, by omega⟩
        have : s = 10 := by omega
        subst this
        refine ⟨false, vs, ?_, FrQ.rf _ _, fun _ _ => rfl, Or.inl ⟨rfl, hno⟩⟩
        show b_X6_fitsFrom_23 N _ _ _ _ _ _ = _
        unfold b_X6_fitsFrom_23
        rw [if_pos (by decide)]
      | succ e ihe =>
        intro s K vs hs hK h1 hP hV hr hno
        obtain ⟨K, rfl⟩ : ∃ j, K = j + 1 := ⟨K - 1, by omega⟩
        have hs9 : s ≤ 9 := by omega
        have hs10 : s < 10 := by omega
        have hqd := hQ d (Nat.le_refl _) hd2

        have hdig : ∀ m, (c * 10 + s) * 10 ^ r ≤ m → m < (c * 10 + (s + 1)) * 10 ^ r → (∀ i, i < d → od_d 10 (a.1 0) m i = od_d 10 d c i) ∧ od_d 10 (a.1 0) m d = s := by
          intro m m1 m2
          have em : m / 10 ^ r = c * 10 + s := by
            refine Nat.div_eq_of_lt_le m1 ?_
            rw [Nat.succ_mul]
            rw [← hE1] at m2
            exact m2
          have e0 : a.1 0 = (d + 1) + r := by omega
          refine ⟨fun i hi => ?_, ?_⟩
          · rw [e0, od_pfx (by omega), em, od_dk hs10 hi]
          · rw [e0, od_pfx (by omega), em, od_dl hs10]
        have hsol : ∀ m, (c * 10 + s) * 10 ^ r ≤ m → m < (c * 10 + (s + 1)) * 10 ^ r → SG a W m = true → (Q d).testBit s = true ∧ ∀ t, d < t → t < a.1 0 → (sl_QN a W d s Q t).testBit (od_d 10 (a.1 0) m t) = true := by
          intro m m1 m2 g
          obtain ⟨p1, p2⟩ := hdig m m1 m2
          have g2 := (sl_iff hv W _).mp g
          have g3 := hS (od_d 10 (a.1 0) m) (fun t _ => od_9 _ _ _) g
          refine ⟨?_, fun t h2 h3 => ?_⟩
          · rw [hqd.2]
            refine ⟨?_, fun i hi => ?_⟩
            · have := g3 d hd2; rw [p2] at this; exact this
            · have := g2.2 i d (by omega) hd2 (by omega)
              rw [p1 i hi, p2] at this; exact this
          · unfold sl_QN
            have o9 := od_9 (a.1 0) m t
            rw [Nat.testBit_and, Nat.testBit_div_two_pow, bsum_tb, Bool.and_eq_true, Bool.and_eq_true, decide_eq_true_iff, (hQ t (by omega) h3).2]
            refine ⟨⟨g3 t h3, fun i hi => ?_⟩, by omega, ?_⟩
            · have := g2.2 i t (by omega) h3 (by omega)
              rw [p1 i hi] at this; exact this
            · have := g2.2 d t hd2 h3 (by omega)
              rw [p2, Nat.add_comm] at this; exact this
        have hskip : ∀ vs1, FrQ vs vs1 d → (∀ i, i < d → vs1.2.2 8 i = vs.2.2 8 i) → (∀ m, (c * 10 + s) * 10 ^ r ≤ m → m < (c * 10 + (s + 1)) * 10 ^ r → SG a W m = false) → ∃ b vs', f_X6_fitsFrom_23 N (f_X6_fitsFrom N k) K vs1 (nI d) (nI (Q d)) (nI (s + 1)) = some (b, vs') ∧ FrQ vs vs' d ∧ (∀ i, i < d → vs'.2.2 8 i = vs.2.2 8 i) ∧ SR a W ((c * 10 + 0) * 10 ^ r) ((c * 10 + 10) * 10 ^ r) b vs' := by
          intro vs1 f1 f2 f3
          obtain ⟨b, vs', q1, q2, q3, q4⟩ := ihe (s + 1) K vs1 (by omega) (by omega) (by rw [f1.1]; exact h1) (f1.fs.xp hP) (f1.qv hV h5) (fun i hi => (f2 i hi).trans (hr i hi)) (fun m m1 m2 => by
            rcases Nat.lt_or_ge m ((c * 10 + s) * 10 ^ r) with g | g
            · exact hno m m1 g
            · exact f3 m g m2)
          exact ⟨b, vs', q1, f1.tr q2, fun i hi => (q3 i hi).trans (f2 i hi), q4⟩
        show ∃ b vs', b_X6_fitsFrom_23 N _ _ _ _ _ _ = _ ∧ _
        unfold b_X6_fitsFrom_23
        rw [if_neg (show ¬ (9 : Int32) < nI s from nI_nlt (a := 9) hs9 (by decide)), bw_has (by omega) (by omega), bs, nI_1 s]
        cases qb : (Q d).testBit s
        · rw [iff0]
          refine hskip vs (FrQ.rf _ _) (fun _ _ => rfl) (fun m m1 m2 => ?_)
          cases g : SG a W m
          · rfl
          · have := (hsol m m1 m2 g).1
            rw [qb] at this
            exact absurd this (by decide)
        · rw [ift]
          obtain ⟨b1, vs1, l1, l2, l3, l4⟩ := ls_x (N := N) hv (W := W) (d := d) (s := s) hs9 (Q := Q) (fun t h2 h3 => (hQ t h2 h3).1) (a.1 0 - (d + 1)) (d + 1) N vs (by omega) (by omega) (by omega) h1 hP hV (fun x h2 h3 => by omega)
          have l1 : f_X6_leavesSome N vs (nI d) (nI s) = some (b1, vs1) := by
            unfold f_X6_leavesSome
            rw [nI_1]; exact l1
          rw [l1, bs]
          rcases l4 with ⟨rfl, x, x1, x2, x3⟩ | ⟨rfl, l5⟩
          · show ∃ b vs', (if b2i false = 0 then _ else _) = _ ∧ _
            rw [iff0]
            refine hskip vs1 l2 (fun i _ => by rw [l3]) (fun m m1 m2 => ?_)
            cases g : SG a W m
            · rfl
            · have := (hsol m m1 m2 g).2 x x1 x2
              rw [x3, Nat.zero_testBit] at this
              exact absurd this (by decide)
          · show ∃ b vs', (if b2i true = 0 then _ else _) = _ ∧ _
            rw [ift, ck_in (by omega) (by decide), nI_clamp (by omega), nI_1]
            have hc2 : ∀ i, i < d → od_d 10 (d + 1) (c * 10 + s) i = od_d 10 d c i := fun i hi => od_dk hs10 hi
            have hc3 : od_d 10 (d + 1) (c * 10 + s) d = s := od_dl hs10
            have hqs := (hqd.2 s).mp qb
            obtain ⟨b2, vs2, r1, r2, r3, r4⟩ := ih (d + 1) (c * 10 + s) k (upa vs1 8 d (nI s)) (sl_QN a W d s Q) (by omega) (by omega) (by show vs1.1 1 = _; rw [l2.1]; exact h1) (l2.fs.xp hP) (fun i j h2 h3 => by
              by_cases cj : j = d
              · rw [cj, hc3, hc2 i (by omega)]
                exact hqs.2 i (by omega)
              · rw [hc2 i (by omega), hc2 j (by omega)]
                exact hC i j h2 (by omega)) (fun t h2 h3 => by
              have hqt := hQ t (by omega) h3
              refine ⟨Nat.lt_of_le_of_lt Nat.and_le_left hqt.1, fun x => ?_⟩
              unfold sl_QN
              rw [Nat.testBit_and, Nat.testBit_div_two_pow, bsum_tb, Bool.and_eq_true, Bool.and_eq_true, decide_eq_true_iff, hqt.2]
              constructor
              · rintro ⟨⟨g1, g2⟩, g3, g4⟩
                refine ⟨g1, fun i hi => ?_⟩
                by_cases ci : i = d
                · rw [ci, hc3, Nat.add_comm]; exact g4
                · rw [hc2 i (by omega)]; exact g2 i (by omega)
              · rintro ⟨g1, g2⟩
                have hx := tb_10 (hL t h3) g1
                refine ⟨⟨g1, fun i hi => ?_⟩, by omega, ?_⟩
                · have := g2 i (by omega); rw [hc2 i hi] at this; exact this
                · have := g2 d (by omega); rw [hc3, Nat.add_comm] at this; exact this) (fun t h2 h3 => l5 t (by omega) h3) (fun i hi => by
              show upd (vs1.2.2 8) d _ i = _
              by_cases ci : i = d
              · rw [ci, pk_us, hc3]
              · rw [pk_un ci, hc2 i (by omega), l3]; exact hr i (by omega))
            have r2d : FrQ vs vs2 d := by
              refine FrQ.tr l2 ⟨r2.1, fun z hz => (r2.2.1 z hz).trans (if_neg (by omega)), fun x hx => ?_⟩
              exact r2.2.2 x (by omega)
            have r3d : ∀ i, i < d → vs2.2.2 8 i = vs.2.2 8 i := by
              intro i hi
              rw [r3 i (by omega)]
              show upd (vs1.2.2 8) d _ i = _
              rw [pk_un (by omega), l3]
            have hup : (c * 10 + s + 1) * 10 ^ r = (c * 10 + (s + 1)) * 10 ^ r := by rw [Nat.add_assoc]
            rw [r1, bs]
            unfold SR at r4
            rw [hup] at r4
            rcases r4 with ⟨rfl, g1⟩ | ⟨rfl, m, g1, g2, g3, g4, g5⟩
            · show ∃ b vs', (if b2i false = 0 then _ else _) = _ ∧ _
              rw [iff0]
              exact hskip vs2 r2d r3d g1
            · show ∃ b vs', (if b2i true = 0 then _ else _) = _ ∧ _
              rw [ift]
              have o1 := hmo 0 s (by omega)
              have o2 := hmo (s + 1) 10 (by omega)
              refine ⟨true, vs2, rfl, r2d, r3d, Or.inr ⟨rfl, m, by omega, by omega, g3, fun x x1 x2 => ?_, g5⟩⟩
              rcases Nat.lt_or_ge x ((c * 10 + s) * 10 ^ r) with g | g
              · exact hno x x1 g
              · exact g4 x g x2
    obtain ⟨b, vs', q1, q2, q3, q4⟩ := key 10 0 N vs (by omega) (by omega) h1 hP hV hr (fun m m1 m2 => by omega)
    have q1 : f_X6_fitsFrom_23 N (f_X6_fitsFrom N k) N vs (nI d) (nI (Q d)) 0 = some (b, vs') := q1
    rw [hE0, hE2]
    refine ⟨b, vs', ?_, q2, q3, q4⟩
    show b_X6_fitsFrom N _ _ _ = _
    unfold b_X6_fitsFrom
    rw [h1, if_pos (nI_lt hd2 (by omega)), ix5, ck_in (by omega) (by decide), nI_clamp (by omega), hV d (Nat.le_refl _) hd2]
    exact q1
def FW (a : AV) (W : Nat) (b : Bool) (vs : US) : Prop := SR a W 0 (10 ^ a.1 0) b vs
theorem nos_fw {a : AV} {W : Nat} (h : NoS a W) (vs : US) : FW a W false vs := Or.inl ⟨rfl, fun m _ _ => h _ (fun t _ => od_9 _ _ _)⟩
theorem fw_l {N : Nat} (hN : 200000 ≤ N) {a : AV} (hv : Valid a) {W : Nat} (hcb : sl_cb a W (a.1 11) = true) : ∀ d t k vs, t + d = a.1 0 → d < k → XL vs a → XP vs a (sl_pr a W (a.1 11)) → (∀ x, x < t → vs.2.2 7 x = nI 1023) → ∃ b vs', f_X6_fitsWithout_67 N k vs (nI t) = some (b, vs') ∧ XL vs' a ∧ FW a W b vs' := by
  have h5 := hv.1
  intro d
  induction d with
  | zero =>
    intro t k vs ht hk hL hP h7
    obtain ⟨k, rfl⟩ : ∃ j, k = j + 1 := ⟨k - 1, by omega⟩
    have : t = a.1 0 := by omega
    subst this
    have t1023 : ∀ x, x < 10 → Nat.testBit 1023 x = true := by decide +kernel
    obtain ⟨b, vs1, q1, q2, q3⟩ := so_w hN hv (W := W) 51 0 N vs (fun _ => 1023) 1 (by omega) (by omega) hL.1 hP (fun x hx => ⟨h7 x hx, by show 1023 < 1024; decide⟩) (fun sl h3 _ x hx => t1023 _ (by have := h3 x hx; omega))
    have q1 : f_X6_strikesOut N vs = some (b, vs1) := q1
    show ∃ b vs', b_X6_fitsWithout_67 N _ _ _ = _ ∧ _
    unfold b_X6_fitsWithout_67
    rw [hL.1, if_pos (nI_le (Nat.le_refl _) (by omega)), q1, bs]
    rcases q3 with ⟨rfl, p1⟩ | ⟨rfl, LM, p1, p2⟩
    · show ∃ b vs', (if b2i false = 0 then _ else _) = _ ∧ _
      rw [iff0]
      exact ⟨false, vs1, rfl, q2.fl.xl hL, nos_fw p1 _⟩
    · show ∃ b vs', (if b2i true = 0 then _ else _) = _ ∧ _
      rw [ift]
      obtain ⟨b, vs2, r1, r2, r3, r4⟩ := ff_x hN hv hcb (fun t ht => (p1 t ht).2) p2 (a.1 0) 0 0 6 vs1 LM (by omega) (by omega) (by rw [q2.1]; exact hL.1) (q2.xp hP) (fun i j h1 h2 => by omega) (fun t h1 h2 => ⟨(p1 t h2).2, fun x => ⟨fun h => ⟨h, fun i hi => absurd hi (Nat.not_lt_zero i)⟩, fun h => h.1⟩⟩) (fun t h1 h2 => by rw [Nat.zero_mul, Nat.zero_add]; exact (p1 t h2).1) (fun i hi => absurd hi (Nat.not_lt_zero i))
      have r1 : f_X6_fitsFrom N 6 vs1 0 = some (b, vs2) := r1
      rw [Nat.zero_mul, Nat.zero_add, Nat.one_mul] at r4
      rw [r1, bs]
      have hx : XL vs2 a := r2.fs.fl.xl (q2.fl.xl hL)
      cases b
      · show ∃ b vs', (if b2i false = 0 then _ else _) = _ ∧ _
        rw [iff0]
        exact ⟨false, vs2, rfl, hx, r4⟩
      · show ∃ b vs', (if b2i true = 0 then _ else _) = _ ∧ _
        rw [ift]
        exact ⟨true, vs2, rfl, hx, r4⟩
  | succ d ih =>
    intro t k vs ht hk hL hP h7
    obtain ⟨k, rfl⟩ : ∃ j, k = j + 1 := ⟨k - 1, by omega⟩
    show ∃ b vs', b_X6_fitsWithout_67 N _ _ _ = _ ∧ _
    unfold b_X6_fitsWithout_67
    rw [hL.1, if_neg (nI_nle2 (a := a.1 0) (by omega) (by omega)), ck_in (by omega) (by decide), nI_clamp (by omega), nI_1]
    refine ih (t + 1) k _ (by omega) (by omega) hL hP (fun x hx => ?_)
    show upd (vs.2.2 7) t _ x = _
    by_cases c : x = t
    · rw [c, pk_us]; rfl
    · rw [pk_un c]; exact h7 x (by omega)
theorem cb_no {a : AV} (hv : Valid a) {W r : Nat} (hr : r < a.1 11) (h1 : W / 2 ^ r % 2 = 0) (h2 : sl_so a r (a.2 12 r) 0 = false) : NoS a W := by
  intro sl _
  cases q : sl_gd a W sl
  · rfl
  · have := ((sl_iff hv W sl).mp q).1
    unfold sl_cb at this
    have := (bAll_iff _ _).mp this r hr
    rw [h1, h2] at this
    exact absurd this (by decide)
theorem fw_r {N : Nat} (hN : 200000 ≤ N) {a : AV} (hv : Valid a) {W : Nat} (hW : W < 32) : ∀ d r k vs, r + d = a.1 11 → d < k → XL vs a → XP vs a (sl_pr a W r) → sl_cb a W r = true → ∃ b vs', f_X6_fitsWithout_24 N k vs (nI W) (nI r) = some (b, vs') ∧ XL vs' a ∧ FW a W b vs' := by
  have h5 := hv.1
  have h11 := hv.2.2.2.2.2.1
  intro d
  induction d with
  | zero =>
    intro r k vs hr hk hL hP hcb
    obtain ⟨k, rfl⟩ : ∃ j, k = j + 1 := ⟨k - 1, by omega⟩
    have : r = a.1 11 := by omega
    subst this
    show ∃ b vs', b_X6_fitsWithout_24 N _ _ _ _ = _ ∧ _
    unfold b_X6_fitsWithout_24
    rw [hL.2.1, if_pos (nI_le (Nat.le_refl _) (by omega))]
    exact fw_l hN hv hcb (a.1 0) 0 N vs (by omega) (by omega) hL hP (fun x hx => absurd hx (Nat.not_lt_zero x))
  | succ d ih =>
    intro r k vs hr hk hL hP hcb
    obtain ⟨k, rfl⟩ : ∃ j, k = j + 1 := ⟨k - 1, by omega⟩
    have hr2 : r < a.1 11 := by omega
    have e6 : sl_cb a W (r + 1) = (sl_cb a W r && (decide (W / 2 ^ r % 2 = 1) || sl_so a r (a.2 12 r) 0)) := rfl
    show ∃ b vs', b_X6_fitsWithout_24 N _ _ _ _ = _ ∧ _
    unfold b_X6_fitsWithout_24
    rw [hL.2.1, if_neg (nI_nle2 (a := a.1 11) hr2 (by omega)), has_x hW (by omega), bs]
    rcases half2 W r with q | q
    · rw [q, show decide (0 = 1) = false from rfl, iff0, ck_in (by omega) (by decide), nI_clamp (by omega), (hL.2.2 r hr2).2.1]
      cases qs : sl_so a r (a.2 12 r) 0
      · rw [iff0]
        exact ⟨false, vs, rfl, hL, nos_fw (cb_no hv hr2 q qs) _⟩
      · rw [ift]
        obtain ⟨vs1, n1, n2, n3⟩ := na_x hN hv hr2 q hL hP
        rw [n1, bs, nI_1]
        exact ih (r + 1) k vs1 (by omega) (by omega) (n2.xl hL) n3 (by rw [e6, hcb, qs]; simp)
    · rw [q, show decide (1 = 1) = true from rfl, ift, nI_1]
      refine ih (r + 1) k vs (by omega) (by omega) hL (fun i j hi hj hij => ?_) (by rw [e6, hcb, q]; rfl)
      rw [hP i j hi hj hij]
      congr 1
      refine bsum_cg 19 (fun x _ => ?_)
      rw [sl_pr1, q]
      simp
theorem fw_p {N : Nat} (hN : 200000 ≤ N) {a : AV} (hv : Valid a) {W : Nat} (hW : W < 32) : ∀ d i k vs, i + d = 25 → d < k → XL vs a → (∀ x, x < i → vs.2.2 6 x = nI (bsum (fun _ => true) 19)) → ∃ b vs', f_X6_fitsWithout_2 N k vs (nI W) (nI i) = some (b, vs') ∧ XL vs' a ∧ FW a W b vs' := by
  have h5 := hv.1
  have h11 := hv.2.2.2.2.2.1
  intro d
  induction d with
  | zero =>
    intro i k vs hi hk hL h6
    obtain ⟨k, rfl⟩ : ∃ j, k = j + 1 := ⟨k - 1, by omega⟩
    have : i = 25 := by omega
    subst this
    show ∃ b vs', b_X6_fitsWithout_2 N _ _ _ _ = _ ∧ _
    unfold b_X6_fitsWithout_2
    rw [if_pos (by decide)]
    exact fw_r hN hv hW (a.1 11) 0 N vs (by omega) (by omega) hL (fun i j hi hj hij => h6 _ (by omega)) rfl
  | succ d ih =>
    intro i k vs hi hk hL h6
    obtain ⟨k, rfl⟩ : ∃ j, k = j + 1 := ⟨k - 1, by omega⟩
    show ∃ b vs', b_X6_fitsWithout_2 N _ _ _ _ = _ ∧ _
    unfold b_X6_fitsWithout_2
    rw [if_neg (show ¬ (25 : Int32) ≤ nI i from nI_nle2 (a := 25) (by omega) (by decide)), ck_in (by omega) (by decide), nI_clamp (by omega), nI_1]
    refine ih (i + 1) k _ (by omega) (by omega) hL (fun x hx => ?_)
    show upd (vs.2.2 6) i _ x = _
    by_cases c : x = i
    · rw [c, pk_us]; decide
    · rw [pk_un c]; exact h6 x (by omega)
theorem fw_x {N : Nat} (hN : 200000 ≤ N) {a : AV} (hv : Valid a) {W : Nat} (hW : W < 32) {vs : US} (hL : XL vs a) : ∃ b vs', f_X6_fitsWithout N vs (nI W) = some (b, vs') ∧ XL vs' a ∧ FW a W b vs' :=
  fw_p hN hv hW 25 0 N vs (by omega) (by omega) hL (fun x hx => absurd hx (Nat.not_lt_zero x))
