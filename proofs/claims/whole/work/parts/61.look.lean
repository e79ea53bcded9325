/-! reading: the reference's tokens -/
def FrT (vm vm' : US) : Prop := vm'.2 = vm.2 ∧ ∀ j, j < 18 ∨ 21 < j → vm'.1 j = vm.1 j
theorem FrT.rf (vm : US) : FrT vm vm := ⟨rfl, fun _ _ => rfl⟩
theorem FrT.tr {x y z : US} (h : FrT x y) (g : FrT y z) : FrT x z := ⟨g.1.trans h.1, fun j hj => (g.2 j hj).trans (h.2 j hj)⟩
theorem FrT.up {vm : US} {k : Nat} {x : Int32} (h1 : 18 ≤ k) (h2 : k ≤ 21) : FrT vm (upi vm k x) := ⟨rfl, fun j hj => if_neg (by omega)⟩
def MB (vm : US) (B : Nat → Nat) (n : Nat) : Prop := n ≤ 200 ∧ vm.1 17 = nI n ∧ ∀ k, k < n → vm.2.2 16 k = nI (B k) ∧ B k < 256
theorem FrT.mb {x y : US} (h : FrT x y) {B : Nat → Nat} {n : Nat} (g : MB x B n) : MB y B n := ⟨g.1, (h.2 17 (by omega)).trans g.2.1, by rw [h.1]; exact g.2.2⟩
theorem in_b {b lo hi : Nat} (hb : b < 256) (hl : lo < 256) (hh : hi < 256) : f_X11_within (nI b) (nI lo) (nI hi) = some (decide (lo ≤ b ∧ b ≤ hi)) := by
  unfold f_X11_within
  by_cases c : b < lo
  · rw [if_pos (nI_lt c (by omega)), decide_eq_false (by omega)]
  · rw [if_neg (nI_nlt (by omega) (by omega))]
    by_cases c2 : hi < b
    · rw [if_pos (nI_lt c2 (by omega)), decide_eq_false (by omega)]
    · rw [if_neg (nI_nlt (by omega) (by omega)), decide_eq_true (by omega)]
theorem sm_b {b : Nat} (hb : b < 256) : f_X12_isSmall (nI b) = some (decide (97 ≤ b ∧ b ≤ 122)) := by
  unfold f_X12_isSmall
  rw [show f_X12_in (nI b).toInt64 97 122 = f_X11_within (nI b) 97 122 from in_w (nI b) 97 122, show f_X11_within (nI b) 97 122 = _ from in_b (lo := 97) (hi := 122) hb (by decide) (by decide), bs]
theorem fg_b {b : Nat} (hb : b < 256) : f_X12_isFigure (nI b) = some (decide (48 ≤ b ∧ b ≤ 57)) := by
  unfold f_X12_isFigure
  rw [show f_X12_in (nI b).toInt64 48 57 = f_X11_within (nI b) 48 57 from in_w (nI b) 48 57, show f_X11_within (nI b) 48 57 = _ from in_b (lo := 48) (hi := 57) hb (by decide) (by decide), bs]
def MT (vm : US) (B : Nat → Nat) (s e k : Nat) : Prop := vm.1 18 = nI s ∧ vm.1 19 = nI (e - s) ∧ vm.1 20 = nI k ∧ (k = 2 → vm.1 21 = nI (tv B s e))
theorem l5_m {N : Nat} {B : Nat → Nat} {n s : Nat} : ∀ d p K vm, p + d = s → d < K → vm.1 18 = nI p → MB vm B n → Run B n 32 32 p s → p ≤ n → ∃ vm', f_X12_look_5 N K vm = b_X12_look_43 N vm' ∧ vm'.1 18 = nI s ∧ FrT vm vm' := by
  intro d
  induction d with
  | zero =>
    intro p K vm hp hK e18 hB hR hpn
    obtain ⟨K, rfl⟩ : ∃ j, K = j + 1 := ⟨K - 1, by omega⟩
    have h200 := hB.1
    have : p = s := by omega
    subst this
    refine ⟨vm, ?_, e18, FrT.rf _⟩
    show b_X12_look_5 N _ _ = _
    unfold b_X12_look_5
    rw [hB.2.1, e18]
    by_cases c : n ≤ p
    · rw [if_pos (nI_le c (by omega))]
    · have b1 := hB.2.2 p (by omega)
      rw [if_neg (nI_nle2 (a := n) (by omega) (by omega)), ck_in (by omega) (by decide), nI_clamp (by omega), b1.1, if_neg (show ¬ nI (B p) = 32 from fun q => hR.2.2 (by
        have := (nI_eq (b := 32) (by omega) (by decide)).mp q
        omega))]
  | succ d ih =>
    intro p K vm hp hK e18 hB hR hpn
    obtain ⟨K, rfl⟩ : ∃ j, K = j + 1 := ⟨K - 1, by omega⟩
    have h200 := hB.1
    have g := hR.2.1 p (Nat.le_refl _) (by omega)
    have b1 := hB.2.2 p g.1
    have fr : FrT vm (upi vm 18 (nI (p + 1))) := FrT.up (by decide) (by decide)
    obtain ⟨vm', r1, r2, r3⟩ := ih (p + 1) K (upi vm 18 (nI (p + 1))) (by omega) (by omega) rfl (fr.mb hB) (hR.nx (by omega)) (by omega)
    refine ⟨vm', ?_, r2, fr.tr r3⟩
    show b_X12_look_5 N _ _ = _
    unfold b_X12_look_5
    rw [hB.2.1, e18, if_neg (nI_nle2 (a := n) g.1 (by omega)), ck_in (by omega) (by decide), nI_clamp (by omega), b1.1, if_pos (show nI (B p) = 32 by rw [show B p = 32 by omega]; rfl), nI_1]
    exact r1
theorem l218_o {N : Nat} (hN : 200000 ≤ N) {vm : US} (h : ¬ vm.1 20 = 2) : f_X12_look_218 N N vm 0 = some (upi vm 20 (vm.1 20)) := by
  obtain ⟨k, rfl⟩ : ∃ j, N = j + 1 := ⟨N - 1, by omega⟩
  show b_X12_look_218 (k + 1) _ _ _ = _
  unfold b_X12_look_218 b_X12_look_274
  rw [if_neg h, if_neg (show ¬ (2 : Int32) ≤ 0 by decide), if_neg h]
  by_cases c : vm.1 19 ≤ 0
  · rw [if_pos c]
  · rw [if_neg c]
theorem l274_m {N : Nat} {vm : US} {B : Nat → Nat} {s e : Nat} (he : s < e) (h200 : e ≤ 200) (e18 : vm.1 18 = nI s) (e19 : vm.1 19 = nI (e - s)) (e20 : vm.1 20 = 2) (e21 : e - s ≤ 2 → vm.1 21 = nI (tv B s e)) : ∃ vm', b_X12_look_274 N vm = some vm' ∧ MT vm' B s e (if e - s ≤ 2 then 2 else 4) ∧ FrT vm vm' := by
  unfold b_X12_look_274
  rw [if_pos e20, e19, e20]
  by_cases c : e - s ≤ 2
  · rw [if_pos (show nI (e - s) ≤ 2 from nI_le (b := 2) c (by decide)), if_pos c]
    exact ⟨_, rfl, ⟨e18, e19, rfl, fun _ => e21 c⟩, FrT.up (by decide) (by decide)⟩
  · rw [if_neg (show ¬ nI (e - s) ≤ 2 from nI_nle2 (b := 2) (by omega) (by omega)), if_neg c]
    exact ⟨_, rfl, ⟨e18, e19, rfl, fun q => absurd q (by decide)⟩, FrT.up (by decide) (by decide)⟩
theorem l218_m {N : Nat} (hN : 200000 ≤ N) {vm : US} {B : Nat → Nat} {n s e : Nat} (hB : MB vm B n) (hs : s < n) (hR : Run B n 48 57 s e) (hse : s < e) (e18 : vm.1 18 = nI s) (e19 : vm.1 19 = nI (e - s)) (e20 : vm.1 20 = 2) (e21 : vm.1 21 = 0) : ∃ vm', f_X12_look_218 N N vm 0 = some vm' ∧ MT vm' B s e (if e - s ≤ 2 then 2 else 4) ∧ FrT vm vm' := by
  have h200 := hB.1
  have hen := hR.le (by omega)
  have b1 := hB.2.2 s hs
  have r1 := hR.2.1 s (Nat.le_refl _) hse
  obtain ⟨k, rfl⟩ : ∃ j, N = j + 1 := ⟨N - 1, by omega⟩
  obtain ⟨k, rfl⟩ : ∃ j, k = j + 1 := ⟨k - 1, by omega⟩
  obtain ⟨k, rfl⟩ : ∃ j, k = j + 1 := ⟨k - 1, by omega⟩
  have step1 : f_X12_look_218 (k + 1 + 1 + 1) (k + 1 + 1 + 1) vm 0 = f_X12_look_218 (k + 1 + 1 + 1) (k + 1 + 1) (upi vm 21 (nI (B s - 48))) 1 := by
    show b_X12_look_218 (k + 1 + 1 + 1) _ _ _ = _
    unfold b_X12_look_218
    rw [e19, e18, if_neg (show ¬ nI (e - s) ≤ 0 from nI_nle2 (b := 0) (by omega) (by omega)), if_neg (by decide), if_pos e20, show nI s + 0 = nI s from by rw [show (0 : Int32) = nI 0 from rfl, nI_add]; rfl, ck_in (by omega) (by decide), nI_clamp (by omega), e21, b1.1, fig1 r1.2.1]
    rfl
  rw [step1]
  by_cases c1 : e = s + 1
  · obtain ⟨vm', q1, q2, q3⟩ := l274_m (N := k + 1 + 1 + 1) (vm := upi vm 21 (nI (B s - 48))) (B := B) hse (by omega) e18 e19 e20 (fun _ => by
      unfold tv
      rw [if_pos (by omega)]
      rfl)
    refine ⟨vm', ?_, q2, FrT.tr (FrT.up (by decide) (by decide)) q3⟩
    rw [← q1]
    show b_X12_look_218 (k + 1 + 1 + 1) _ _ _ = _
    unfold b_X12_look_218
    show (if vm.1 19 ≤ 1 then _ else _) = _
    rw [e19, if_pos (show nI (e - s) ≤ 1 from nI_le (b := 1) (by omega) (by decide))]
  · have r2 := hR.2.1 (s + 1) (by omega) (by omega)
    have b2 := hB.2.2 (s + 1) r2.1
    obtain ⟨vm', q1, q2, q3⟩ := l274_m (N := k + 1 + 1 + 1) (vm := upi (upi vm 21 (nI (B s - 48))) 21 (nI (10 * (B s - 48) + (B (s + 1) - 48)))) (B := B) hse (by omega) e18 e19 e20 (fun _ => by
      unfold tv
      rw [if_neg (by omega)]
      rfl)
    refine ⟨vm', ?_, q2, FrT.tr (FrT.up (by decide) (by decide)) (FrT.tr (FrT.up (by decide) (by decide)) q3)⟩
    have step2 : f_X12_look_218 (k + 1 + 1 + 1) (k + 1 + 1) (upi vm 21 (nI (B s - 48))) 1 = f_X12_look_218 (k + 1 + 1 + 1) (k + 1) (upi (upi vm 21 (nI (B s - 48))) 21 (nI (10 * (B s - 48) + (B (s + 1) - 48)))) 2 := by
      show b_X12_look_218 (k + 1 + 1 + 1) _ _ _ = _
      unfold b_X12_look_218
      show (if vm.1 19 ≤ 1 then _ else (if (2 : Int32) ≤ 1 then _ else (if vm.1 20 = 2 then (if vm.1 18 + 1 < 0 ∨ 200 ≤ (vm.1 18 + 1).toNatClampNeg then none else f_X12_look_218 (k + 1 + 1 + 1) (k + 1) (upi (upi vm 21 (nI (B s - 48))) 21 (10 * nI (B s - 48) + vm.2.2 16 (vm.1 18 + 1).toNatClampNeg - 48)) 2) else _))) = _
      rw [e19, e18, nI_1, if_neg (show ¬ nI (e - s) ≤ 1 from nI_nle2 (b := 1) (by omega) (by omega)), if_neg (by decide), if_pos e20, ck_in (by omega) (by decide), nI_clamp (by omega), b2.1, fig2 r2.2.1]
    rw [step2, ← q1]
    show b_X12_look_218 (k + 1 + 1 + 1) _ _ _ = _
    unfold b_X12_look_218
    rw [if_pos (show (2 : Int32) ≤ 2 by decide)]
    by_cases cc : (upi (upi vm 21 (nI (B s - 48))) 21 (nI (10 * (B s - 48) + (B (s + 1) - 48)))).1 19 ≤ 2
    · rw [if_pos cc]
    · rw [if_neg cc]
/-- the length of a run -/
theorem l136_m {N : Nat} {B : Nat → Nat} {n s e lo hi kk : Nat} (hk : (kk = 1 ∧ lo = 97 ∧ hi = 122) ∨ (kk = 2 ∧ lo = 48 ∧ hi = 57)) : ∀ d j K vm, s + j + d = e → d + 1 < K → vm.1 18 = nI s → vm.1 19 = nI j → vm.1 20 = nI kk → MB vm B n → Run B n lo hi (s + j) e → s + j ≤ n → ∃ vm', f_X12_look_136 N K vm 1 = f_X12_look_218 N N vm' 0 ∧ vm'.1 18 = nI s ∧ vm'.1 19 = nI (e - s) ∧ vm'.1 20 = nI kk ∧ vm'.1 21 = vm.1 21 ∧ FrT vm vm' := by
  have byte : ∀ b, b < 256 → ∀ (g : US → Int32 → Option US) (vm : US), vm.1 20 = nI kk → (if vm.1 20 = 1 then ((f_X12_isSmall (nI b)).bind fun zr8 => b_X12_look_193 N g vm (b2i zr8)) else ((f_X12_isFigure (nI b)).bind fun zr5 => b_X12_look_193 N g vm (b2i zr5))) = b_X12_look_193 N g vm (b2i (decide (lo ≤ b ∧ b ≤ hi))) := by
    intro b hb g vm e20
    rcases hk with ⟨rfl, rfl, rfl⟩ | ⟨rfl, rfl, rfl⟩
    · rw [if_pos (show vm.1 20 = 1 from e20), sm_b hb, bs]
    · rw [if_neg (by rw [e20]; decide), fg_b hb, bs]
  intro d
  induction d with
  | zero =>
    intro j K vm hj hK e18 e19 e20 hB hR hjn
    obtain ⟨K, rfl⟩ : ∃ j, K = j + 1 := ⟨K - 1, by omega⟩
    obtain ⟨K, rfl⟩ : ∃ j, K = j + 1 := ⟨K - 1, by omega⟩
    have h200 := hB.1
    by_cases c : n ≤ s + j
    · refine ⟨vm, ?_, e18, by rw [e19, show e - s = j by omega], e20, rfl, FrT.rf _⟩
      show b_X12_look_136 N _ _ _ = _
      unfold b_X12_look_136
      rw [if_neg (show ¬ (1 : Int32) = 0 by decide), hB.2.1, e18, e19, nI_add, if_pos (nI_le c (by omega))]
    · have b1 := hB.2.2 (s + j) (by omega)
      have hno : ¬ (lo ≤ B (s + j) ∧ B (s + j) ≤ hi) := fun q => hR.2.2 (by rw [← hj, Nat.add_zero]; exact ⟨by omega, q.1, q.2⟩)
      refine ⟨upi vm 19 (vm.1 19 + 0), ?_, e18, ?_, e20, rfl, FrT.up (by decide) (by decide)⟩
      · show b_X12_look_136 N _ _ _ = _
        unfold b_X12_look_136
        rw [if_neg (show ¬ (1 : Int32) = 0 by decide), hB.2.1, e18, e19, nI_add, if_neg (nI_nle2 (a := n) (by omega) (by omega)), ck_in (by omega) (by decide), nI_clamp (by omega), b1.1, byte _ b1.2 _ vm e20, decide_eq_false hno]
        unfold b_X12_look_193
        rw [iff0, e19]
        show b_X12_look_136 N _ _ 0 = _
        unfold b_X12_look_136
        rw [if_pos rfl]
      · show vm.1 19 + 0 = _
        rw [e19, show (0 : Int32) = nI 0 from rfl, nI_add, show e - s = j + 0 by omega]
  | succ d ih =>
    intro j K vm hj hK e18 e19 e20 hB hR hjn
    obtain ⟨K, rfl⟩ : ∃ j, K = j + 1 := ⟨K - 1, by omega⟩
    have h200 := hB.1
    have g := hR.2.1 (s + j) (Nat.le_refl _) (by omega)
    have b1 := hB.2.2 (s + j) g.1
    have fr : FrT vm (upi vm 19 (nI (j + 1))) := FrT.up (by decide) (by decide)
    obtain ⟨vm', r1, r2, r3, r4, r5, r6⟩ := ih (j + 1) K (upi vm 19 (nI (j + 1))) (by omega) (by omega) e18 rfl e20 (fr.mb hB) (hR.nx (by omega)) (by omega)
    refine ⟨vm', ?_, r2, r3, r4, r5, fr.tr r6⟩
    show b_X12_look_136 N _ _ _ = _
    unfold b_X12_look_136
    rw [if_neg (show ¬ (1 : Int32) = 0 by decide), hB.2.1, e18, e19, nI_add, if_neg (nI_nle2 (a := n) g.1 (by omega)), ck_in (by omega) (by decide), nI_clamp (by omega), b1.1, byte _ b1.2 _ vm e20, decide_eq_true g.2]
    unfold b_X12_look_193
    rw [if_neg (show ¬ b2i true = 0 by decide), e19, nI_1]
    exact r1
theorem lkm {N : Nat} (hN : 200000 ≤ N) {vm : US} {B : Nat → Nat} {n p s e k : Nat} (hB : MB vm B n) (h : Tok B n p s e k) : ∃ vm', f_X12_look N vm (nI p) = some vm' ∧ MT vm' B s e k ∧ FrT vm vm' := by
  have h200 := hB.1
  obtain ⟨p0, p1, p2, p3⟩ := h
  have fr0 : FrT vm (upi vm 18 (nI p)) := FrT.up (by decide) (by decide)
  obtain ⟨vm1, a1, a2, a3⟩ := l5_m (N := N) (s - p) p N (upi vm 18 (nI p)) (by have := p1.1; omega) (by omega) rfl (fr0.mb hB) p1 p0
  have fr1 := fr0.tr a3
  have hB1 := fr1.mb hB
  have a1 : f_X12_look N vm (nI p) = b_X12_look_43 N vm1 := a1
  rw [a1]
  unfold b_X12_look_43
  rw [bnd_eq, bnd_eq]
  show ∃ vm', (if vm1.1 18 = vm1.1 17 then _ else (if vm1.1 18 < 0 ∨ 200 ≤ (vm1.1 18).toNatClampNeg then none else ((f_X12_isSmall (vm1.2.2 16 (vm1.1 18).toNatClampNeg)).bind fun zr5 => if (b2i zr5) = 0 then ((f_X12_isFigure (vm1.2.2 16 (vm1.1 18).toNatClampNeg)).bind fun zr9 => if (b2i zr9) = 0 then (if (vm1.2.2 16 (vm1.1 18).toNatClampNeg) = 59 then (b_X12_look_114 N (upi (upi (upi vm1 19 0) 20 0) 21 0) 3) else (b_X12_look_114 N (upi (upi (upi vm1 19 0) 20 0) 21 0) 4)) else (b_X12_look_114 N (upi (upi (upi vm1 19 0) 20 0) 21 0) 2)) else (b_X12_look_114 N (upi (upi (upi vm1 19 0) 20 0) 21 0) 1)))) = _ ∧ _
  rw [a2, hB1.2.1]
  have fr2 : FrT vm1 (upi (upi (upi vm1 19 0) 20 0) 21 0) := FrT.tr (FrT.up (by decide) (by decide)) (FrT.tr (FrT.up (by decide) (by decide)) (FrT.up (by decide) (by decide)))
  rcases p3 with ⟨c1, c2, c3⟩ | ⟨c1, c2, c3, c4, c5⟩ | ⟨c1, c2, c3, c4, c5⟩ | ⟨c1, c2, c3, c4, c5⟩
  · rw [if_pos (by rw [c1])]
    refine ⟨_, rfl, ⟨a2, ?_, ?_, fun q => by omega⟩, fr1.tr fr2⟩
    · rw [c2, Nat.sub_self]; rfl
    · rw [c3]; rfl
  all_goals
    have b1 := hB1.2.2 s c1
    rw [if_neg (fun q => by have := (nI_eq (by omega) (by omega)).mp q; omega), ck_in (by omega) (by decide), nI_clamp (by omega), b1.1, sm_b b1.2, bs, fg_b b1.2, bs]
  · rw [decide_eq_true (show 97 ≤ B s ∧ B s ≤ 122 from ⟨c2, c3⟩), ift]
    unfold b_X12_look_114
    rw [bnd_eq]
    show ∃ vm', (if (3 : Int32) ≤ 1 then _ else _) = _ ∧ _
    rw [if_neg (by decide)]
    have hlt := c4.lt c1 c2 c3
    have hle := c4.le (by omega)
    have fr3 : FrT vm1 (upi (upi (upi (upi (upi vm1 19 0) 20 0) 21 0) 20 1) 19 1) := fr2.tr (FrT.tr (FrT.up (by decide) (by decide)) (FrT.up (by decide) (by decide)))
    obtain ⟨vm2, d1, d2, d3, d4, d5, d6⟩ := l136_m (N := N) (B := B) (n := n) (s := s) (e := e) (lo := 97) (hi := 122) (kk := 1) (Or.inl ⟨rfl, rfl, rfl⟩) (e - (s + 1)) 1 N (upi (upi (upi (upi (upi vm1 19 0) 20 0) 21 0) 20 1) 19 1) (by omega) (by omega) a2 rfl rfl (fr3.mb hB1) (c4.nx hlt) (by omega)
    rw [d1, l218_o hN (by rw [d4]; decide)]
    refine ⟨_, rfl, ⟨d2, d3, ?_, fun q => by omega⟩, fr1.tr (fr3.tr (d6.tr (FrT.up (by decide) (by decide))))⟩
    rw [c5]; exact d4
  · rw [decide_eq_false (show ¬ (97 ≤ B s ∧ B s ≤ 122) by omega), iff0, decide_eq_true (show 48 ≤ B s ∧ B s ≤ 57 from ⟨c2, c3⟩), ift]
    unfold b_X12_look_114
    rw [bnd_eq]
    show ∃ vm', (if (3 : Int32) ≤ 2 then _ else _) = _ ∧ _
    rw [if_neg (by decide)]
    have hlt := c4.lt c1 c2 c3
    have hle := c4.le (by omega)
    have fr3 : FrT vm1 (upi (upi (upi (upi (upi vm1 19 0) 20 0) 21 0) 20 2) 19 1) := fr2.tr (FrT.tr (FrT.up (by decide) (by decide)) (FrT.up (by decide) (by decide)))
    obtain ⟨vm2, d1, d2, d3, d4, d5, d6⟩ := l136_m (N := N) (B := B) (n := n) (s := s) (e := e) (lo := 48) (hi := 57) (kk := 2) (Or.inr ⟨rfl, rfl, rfl⟩) (e - (s + 1)) 1 N (upi (upi (upi (upi (upi vm1 19 0) 20 0) 21 0) 20 2) 19 1) (by omega) (by omega) a2 rfl rfl (fr3.mb hB1) (c4.nx hlt) (by omega)
    rw [d1]
    have fr4 := fr3.tr d6
    obtain ⟨vm3, g1, g2, g3⟩ := l218_m hN (fr4.mb hB1) c1 c4 hlt d2 d3 d4 (d5.trans rfl)
    rw [c5]
    exact ⟨vm3, g1, g2, fr1.tr (fr4.tr g3)⟩
  · rw [decide_eq_false c2, iff0, decide_eq_false c3, iff0]
    have fin : ∀ x : Nat, 3 ≤ x → x ≤ 4 → k = x → ∃ vm', b_X12_look_114 N (upi (upi (upi vm1 19 0) 20 0) 21 0) (nI x) = some vm' ∧ MT vm' B s e k ∧ FrT vm vm' := by
      intro x x1 x2 x3
      unfold b_X12_look_114
      rw [bnd_eq]
      show ∃ vm', (if (3 : Int32) ≤ nI x then _ else _) = _ ∧ _
      rw [if_pos (show (3 : Int32) ≤ nI x from nI_le (a := 3) x1 (by omega))]
      have e136 : f_X12_look_136 N N (upi (upi (upi (upi (upi vm1 19 0) 20 0) 21 0) 20 (nI x)) 19 1) 0 = f_X12_look_218 N N (upi (upi (upi (upi (upi vm1 19 0) 20 0) 21 0) 20 (nI x)) 19 1) 0 := by
        obtain ⟨j, rfl⟩ : ∃ j, N = j + 1 := ⟨N - 1, by omega⟩
        show b_X12_look_136 (j + 1) _ _ _ = _
        unfold b_X12_look_136
        rw [if_pos rfl]
      rw [e136, l218_o hN (show ¬ nI x = 2 from fun q => by have := (nI_eq (b := 2) (by omega) (by decide)).mp q; omega)]
      refine ⟨_, rfl, ⟨a2, ?_, ?_, fun q => by omega⟩, fr1.tr (fr2.tr (FrT.tr (FrT.up (by decide) (by decide)) (FrT.tr (FrT.up (by decide) (by decide)) (FrT.up (by decide) (by decide)))))⟩
      · rw [c4, show s + 1 - s = 1 by omega]; rfl
      · rw [x3]; rfl
    by_cases c : B s = 59
    · rw [if_pos c] at c5
      rw [if_pos (show nI (B s) = 59 by rw [c]; rfl)]
      exact fin 3 (by decide) (by decide) c5
    · rw [if_neg c] at c5
      rw [if_neg (show ¬ nI (B s) = 59 from fun q => c ((nI_eq (b := 59) (by omega) (by decide)).mp q))]
      exact fin 4 (by decide) (by decide) c5
theorem goon {N : Nat} (hN : 200000 ≤ N) {vm : US} {B : Nat → Nat} {n p s e k s' e' k' : Nat} (hB : MB vm B n) (hM : MT vm B s e k) (h1 : Tok B n p s e k) (h : Tok B n e s' e' k') : ∃ vm', f_X12_goOn N vm = some vm' ∧ MT vm' B s' e' k' ∧ FrT vm vm' := by
  have hb := h1.bd
  obtain ⟨vm', r1, r2, r3⟩ := lkm hN hB h
  refine ⟨vm', ?_, r2, r3⟩
  unfold f_X12_goOn
  rw [hM.1, hM.2.1, nI_add, show s + (e - s) = e by omega, r1, bs]
