/-! reading: numbers and words -/
def wb (x lo hi : Int32) : Bool := if x < lo then false else if hi < x then false else true
theorem wb_x (x lo hi : Int32) : f_X11_within x lo hi = some (wb x lo hi) := by
  unfold f_X11_within wb
  by_cases c : x < lo
  · rw [if_pos c, if_pos c]
  · rw [if_neg c, if_neg c]
    by_cases c2 : hi < x
    · rw [if_pos c2, if_pos c2]
    · rw [if_neg c2, if_neg c2]
def nb (B : Nat → Nat) (s e k : Nat) (lo hi : Int32) : Bool := decide (k = 2) && wb (nI (tv B s e)) lo hi
def FrV (vm vm' : US) : Prop := (∀ j, j < 18 ∨ 21 < j → vm'.1 j = vm.1 j) ∧ vm'.2.1 = vm.2.1 ∧ ∀ s, s ≠ 23 → vm'.2.2 s = vm.2.2 s
theorem FrV.rf (vm : US) : FrV vm vm := ⟨fun _ _ => rfl, rfl, fun _ _ => rfl⟩
theorem FrV.tr {x y z : US} (h : FrV x y) (g : FrV y z) : FrV x z := ⟨fun j hj => (g.1 j hj).trans (h.1 j hj), g.2.1.trans h.2.1, fun s hs => (g.2.2 s hs).trans (h.2.2 s hs)⟩
theorem FrT.fv {x y : US} (h : FrT x y) : FrV x y := ⟨h.2, by rw [h.1], fun s _ => by rw [h.1]⟩
theorem FrV.mb {x y : US} (h : FrV x y) {B : Nat → Nat} {n : Nat} (g : MB x B n) : MB y B n := ⟨g.1, (h.1 17 (by omega)).trans g.2.1, by rw [h.2.2 16 (by decide)]; exact g.2.2⟩
theorem FrV.sc {x y : US} (h : FrV x y) : ScrM x y := ⟨h.2.1, h.1 17 (by omega), h.2.2 1 (by decide), h.2.2 2 (by decide), h.2.2 3 (by decide), h.2.2 16 (by decide)⟩
/-- the class is about to look at the token that the reference has looked at -/
def Pp (B : Nat → Nat) (n : Nat) (vr vm : US) (p : Nat) : Prop := p ≤ n ∧ vr.1 5 = nI p ∧ vr.1 4 = nI n ∧ MB vm B n ∧ ∃ s e k, Tok B n p s e k ∧ MT vm B s e k
theorem pn_x {N : Nat} (hN : 200000 ≤ N) {tx : Nat → Int32} {B : Nat → Nat} {n p : Nat} {vr vm : US} (hT : TB tx B n) (hP : Pp B n vr vm p) {i : Nat} (hi : i < 4) (lo hi' : Int32) : ∃ b vr' vm', f_X5_takesNumber N vr tx (nI i) lo hi' = some (b, vr') ∧ f_X12_takes N vm (nI i) lo hi' = some (b, vm') ∧ vr'.1 1 = vr.1 1 ∧ FrV vm vm' ∧ (b = false → vr'.1 2 = vm'.1 18) ∧ (b = true → (∃ p', p < p' ∧ Pp B n vr' vm' p') ∧ f_X11_within (vr'.2.2 8 i) lo hi' = some true ∧ vr'.2.2 8 i = vm'.2.2 23 i ∧ (∀ j, j ≠ i → vr'.2.2 8 j = vr.2.2 8 j) ∧ (∀ j, j ≠ i → vm'.2.2 23 j = vm.2.2 23 j)) := by
  obtain ⟨p0, p5, p4, hB, s, e, k, tok, mt⟩ := hP
  have hbd := tok.bd
  obtain ⟨vr1, q1, q2, q3, q4⟩ := nt_x hN hT tok p5 p4
  have h200 := hT.1
  unfold f_X5_takesNumber f_X12_takes
  rw [q1, bs, q2.2.2.1, mt.2.2.1]
  by_cases ck2 : k = 2
  · have e2 : nI k = 2 := by rw [ck2]; rfl
    rw [if_pos e2, if_pos e2, q2.2.2.2.1 ck2, mt.2.2.2 ck2, in_w, wb_x, bs, bs]
    cases hw : wb (nI (tv B s e)) lo hi'
    · rw [iff0, iff0]
      exact ⟨false, vr1, vm, rfl, rfl, q3, FrV.rf _, fun _ => q2.1.trans mt.1.symm, fun q => absurd q (by decide)⟩
    · rw [ift, ift, ck_in hi (by decide), ck_in hi (by decide), nI_clamp (by omega)]
      obtain ⟨s', e', k', tok'⟩ := tok_ex B (n := n) (p := e) hbd.2.2.1
      have fr : FrV vm (upa vm 23 i (nI (tv B s e))) := ⟨fun _ _ => rfl, rfl, fun z hz => if_neg hz⟩
      obtain ⟨vm1, g1, g2, g3⟩ := goon hN (fr.mb hB) (vm := upa vm 23 i (nI (tv B s e))) mt tok tok'
      rw [g1, bs]
      have hlt := hbd.2.2.2.2.1 (by omega)
      refine ⟨true, _, vm1, rfl, rfl, q3, fr.tr g3.fv, fun q => absurd q (by decide), fun _ => ⟨⟨e, by omega, hbd.2.2.1, q2.2.1, q2.2.2.2.2, g3.fv.mb (fr.mb hB), s', e', k', tok', g2⟩, ?_, ?_, fun j hj => ?_, fun j hj => ?_⟩⟩
      · show f_X11_within (upd (vr1.2.2 8) i (nI (tv B s e)) i) lo hi' = _
        rw [pk_us, wb_x, hw]
      · show upd (vr1.2.2 8) i (nI (tv B s e)) i = _
        rw [g3.1]
        show _ = upd (vm.2.2 23) i _ i
        rw [pk_us, pk_us]
      · show upd (vr1.2.2 8) i (nI (tv B s e)) j = _
        rw [pk_un hj, q4]
      · rw [g3.1]
        show upd (vm.2.2 23) i _ j = _
        rw [pk_un hj]
  · have e2 : ¬ nI k = 2 := fun q => ck2 ((nI_eq (b := 2) (by omega) (by decide)).mp q)
    rw [if_neg e2, if_neg e2]
    exact ⟨false, vr1, vm, rfl, rfl, q3, FrV.rf _, fun _ => q2.1.trans mt.1.symm, fun q => absurd q (by decide)⟩
/-- words -/
def wl (k : Nat) : Nat := [5, 3, 4, 6, 4].getD k 0
def wc (k i : Nat) : Nat := ([[116, 104, 105, 110, 103], [99, 117, 116], [100, 97, 109, 112], [101, 114, 114, 97, 110, 100], [114, 117, 108, 101]].getD k []).getD i 0
theorem wl_eq : ∀ k, k < 5 → (slen k = nI (wl k) ∧ strLen.getD k 0 = wl k ∧ 3 ≤ wl k ∧ wl k ≤ 6) := by decide +kernel
theorem wc_eq : ∀ k, k < 5 → ∀ i, i < 6 → i < wl k → (sch k (nI i) = nI (wc k i) ∧ 97 ≤ wc k i ∧ wc k i ≤ 122) := by decide +kernel
def wdB (B : Nat → Nat) (s e k : Nat) : Bool := decide (e - s = wl k) && bAll (fun i => decide (B (s + i) = wc k i)) (wl k)
theorem iw_xl {N : Nat} {tx : Nat → Int32} {B : Nat → Nat} {n s k : Nat} {vr : US} (hT : TB tx B n) (hk : k < 5) (e2 : vr.1 2 = nI s) (hs : s + wl k ≤ n) : ∀ d i K, i + d = wl k → d < K → bAll (fun i => decide (B (s + i) = wc k i)) i = true → f_X5_isWord_20 N K vr tx k (nI i) = some (bAll (fun i => decide (B (s + i) = wc k i)) (wl k)) := by
  have h200 := hT.1
  have hw := wl_eq k hk
  intro d
  induction d with
  | zero =>
    intro i K hi hK h
    obtain ⟨K, rfl⟩ : ∃ j, K = j + 1 := ⟨K - 1, by omega⟩
    have : i = wl k := by omega
    subst this
    show b_X5_isWord_20 N _ _ _ _ _ = _
    unfold b_X5_isWord_20
    rw [if_neg (by omega), hw.1, if_pos (nI_le (Nat.le_refl _) (by omega)), h]
  | succ d ih =>
    intro i K hi hK h
    obtain ⟨K, rfl⟩ : ∃ j, K = j + 1 := ⟨K - 1, by omega⟩
    have b1 := hT.2 (s + i) (by omega)
    have c1 := wc_eq k hk i (by omega) (by omega)
    have e6 : bAll (fun i => decide (B (s + i) = wc k i)) (i + 1) = (bAll (fun i => decide (B (s + i) = wc k i)) i && decide (B (s + i) = wc k i)) := rfl
    rw [h, Bool.true_and] at e6
    show b_X5_isWord_20 N _ _ _ _ _ = _
    unfold b_X5_isWord_20
    rw [if_neg (by omega), hw.1, if_neg (nI_nle2 (a := wl k) (by omega) (by omega)), e2, nI_add, ck_in (by omega) (by decide), if_neg (by omega), hw.2.1, ck_in (by omega) (by omega), nI_clamp (by omega), b1.1, c1.1, nI_1]
    by_cases c : B (s + i) = wc k i
    · rw [if_pos (by rw [c])]
      exact ih (i + 1) K (by omega) (by omega) (by rw [e6, decide_eq_true c])
    · rw [if_neg (fun q => c ((nI_eq (by omega) (by omega)).mp q))]
      have := bAll_f (i := i + 1) (by rw [e6, decide_eq_false c]) d
      rw [show i + 1 + d = wl k by omega] at this
      rw [this]
theorem iw_x {N : Nat} (hN : 200000 ≤ N) {tx : Nat → Int32} {B : Nat → Nat} {n s e k kk : Nat} {vr : US} (hT : TB tx B n) (hk : k < 5) (hX : XT vr B n s e kk) (hse : s ≤ e) (hen : e ≤ n) : f_X5_isWord N vr tx k = some (wdB B s e k) := by
  have h200 := hT.1
  have hw := wl_eq k hk
  unfold f_X5_isWord wdB
  rw [if_neg (by omega), hX.1, hX.2.1, pk_sub hse, hw.1]
  by_cases c : e - s = wl k
  · rw [if_pos (by rw [c]), decide_eq_true c, Bool.true_and]
    exact iw_xl (N := N) hT hk hX.1 (by omega) (wl k) 0 N (by omega) (by omega) rfl
  · rw [if_neg (fun q => c ((nI_eq (by omega) (by omega)).mp q)), decide_eq_false c]
    rfl
theorem pk6 {α : Type} (i : Nat) (hi : i < 6) (F : Int32 → α) (c : Nat → Int32) : (if nI i = 0 then F (c 0) else if nI i = 1 then F (c 1) else if nI i = 2 then F (c 2) else if nI i = 3 then F (c 3) else if nI i = 4 then F (c 4) else F (c 5)) = F (c i) := by
  have : i = 0 ∨ i = 1 ∨ i = 2 ∨ i = 3 ∨ i = 4 ∨ i = 5 := by omega
  rcases this with rfl | rfl | rfl | rfl | rfl | rfl
  · rw [if_pos (by decide)]
  · rw [if_neg (by decide), if_pos (by decide)]
  · rw [if_neg (by decide), if_neg (by decide), if_pos (by decide)]
  · rw [if_neg (by decide), if_neg (by decide), if_neg (by decide), if_pos (by decide)]
  · rw [if_neg (by decide), if_neg (by decide), if_neg (by decide), if_neg (by decide), if_pos (by decide)]
  · rw [if_neg (by decide), if_neg (by decide), if_neg (by decide), if_neg (by decide), if_neg (by decide)]
theorem iw_f {N : Nat} {vm : US} {y1 y2 y3 y4 y5 y6 y7 y9 : Int32} {K : Nat} : f_X12_isWord_58 N (K + 1) vm y1 y2 y3 y4 y5 y6 y7 false y9 = some false := by
  show b_X12_isWord_58 N _ _ _ _ _ _ _ _ _ _ _ = _
  unfold b_X12_isWord_58
  rw [iff0]
  by_cases c : y7 ≤ y9
  · rw [if_pos c]
  · rw [if_neg c]
theorem iw_ml {N : Nat} {B : Nat → Nat} {n s L : Nat} {vm : US} {ch : Nat → Nat} {c : Nat → Int32} (hB : MB vm B n) (e18 : vm.1 18 = nI s) (hL : L ≤ 6) (hs : s + L ≤ n) (hc : ∀ i, i < L → c i = nI (ch i) ∧ ch i < 256) : ∀ d i K, i + d = L → d < K → f_X12_isWord_58 N K vm (c 0) (c 1) (c 2) (c 3) (c 4) (c 5) (nI L) (bAll (fun i => decide (B (s + i) = ch i)) i) (nI i) = some (bAll (fun i => decide (B (s + i) = ch i)) L) := by
  have h200 := hB.1
  intro d
  induction d with
  | zero =>
    intro i K hi hK
    obtain ⟨K, rfl⟩ : ∃ j, K = j + 1 := ⟨K - 1, by omega⟩
    have : i = L := by omega
    subst this
    show b_X12_isWord_58 N _ _ _ _ _ _ _ _ _ _ _ = _
    unfold b_X12_isWord_58
    rw [if_pos (nI_le (Nat.le_refl _) (by omega))]
  | succ d ih =>
    intro i K hi hK
    obtain ⟨K, rfl⟩ : ∃ j, K = j + 1 := ⟨K - 1, by omega⟩
    cases h : bAll (fun i => decide (B (s + i) = ch i)) i
    · have := bAll_f h (d + 1)
      rw [hi] at this
      rw [this]
      exact iw_f
    · have b1 := hB.2.2 (s + i) (by omega)
      have c1 := hc i (by omega)
      have e6 : bAll (fun i => decide (B (s + i) = ch i)) (i + 1) = (bAll (fun i => decide (B (s + i) = ch i)) i && decide (B (s + i) = ch i)) := rfl
      rw [h, Bool.true_and] at e6
      have IH := ih (i + 1) K (by omega) (by omega)
      rw [e6] at IH
      show b_X12_isWord_58 N _ _ _ _ _ _ _ _ _ _ _ = _
      unfold b_X12_isWord_58
      rw [if_neg (nI_nle2 (a := L) (by omega) (by omega)), ift, e18, nI_add, ck_in (by omega) (by decide), nI_clamp (by omega), b1.1]
      have p6 := pk6 i (by omega) (fun y => b_X12_isWord_135 N (f_X12_isWord_58 N K) vm (c 0) (c 1) (c 2) (c 3) (c 4) (c 5) (nI L) (nI i) y (nI (B (s + i)))) c
      refine p6.trans ?_
      show b_X12_isWord_135 N _ _ _ _ _ _ _ _ _ _ _ _ = _
      unfold b_X12_isWord_135
      rw [c1.1, nI_1]
      by_cases cc : B (s + i) = ch i
      · rw [if_pos (by rw [cc])]
        rw [decide_eq_true cc] at IH
        exact IH
      · rw [if_neg (fun q => cc ((nI_eq (by omega) (by omega)).mp q))]
        rw [decide_eq_false cc] at IH
        exact IH
theorem iw_29 {N : Nat} (hN : 200000 ≤ N) {B : Nat → Nat} {n p s e kk k : Nat} {vm : US} {c : Nat → Int32} (hB : MB vm B n) (hM : MT vm B s e kk) (tok : Tok B n p s e kk) (hk : k < 5) (hc : ∀ i, i < wl k → c i = nI (wc k i)) : b_X12_isWord_29 N vm (c 0) (c 1) (c 2) (c 3) (c 4) (c 5) (nI (wl k)) = some (wdB B s e k) := by
  have hw := wl_eq k hk
  have hbd := tok.bd
  have h200 := hB.1
  have ff : ∀ {y1 y2 y3 y4 y5 y6 y7 y9 : Int32}, f_X12_isWord_58 N N vm y1 y2 y3 y4 y5 y6 y7 false y9 = some false := by
    intro y1 y2 y3 y4 y5 y6 y7 y9
    obtain ⟨K, rfl⟩ : ∃ j, N = j + 1 := ⟨N - 1, by omega⟩
    exact iw_f
  unfold b_X12_isWord_29
  rw [hM.2.2.1, hM.2.1]
  by_cases c1 : e - s = wl k
  · by_cases ck : kk = 1
    · rw [if_pos (by rw [ck]; rfl), if_pos (by rw [c1])]
      unfold wdB
      rw [decide_eq_true c1, Bool.true_and]
      exact iw_ml (N := N) hB hM.1 hw.2.2.2 (by omega) (fun i hi => ⟨hc i hi, by have := (wc_eq k hk i (by omega) hi).2; omega⟩) (wl k) 0 N (by omega) (by omega)
    · rw [if_neg (show ¬ nI kk = 1 from fun q => ck ((nI_eq (b := 1) (by omega) (by decide)).mp q)), ff]
      cases h : wdB B s e k
      · rfl
      · exfalso
        unfold wdB at h
        rw [Bool.and_eq_true] at h
        have h0 := (bAll_iff _ _).mp h.2 0 (by omega)
        rw [decide_eq_true_iff, Nat.add_zero] at h0
        have r := (wc_eq k hk 0 (by decide) (by omega)).2
        obtain ⟨-, -, -, h3⟩ := tok
        rcases h3 with ⟨a1, a2, a3⟩ | ⟨a1, a2, a3, a4, a5⟩ | ⟨a1, a2, a3, a4, a5⟩ | ⟨a1, a2, a3, a4, a5⟩
        · omega
        · exact ck a5
        · omega
        · apply a2; omega
  · have hf : wdB B s e k = false := by
      unfold wdB
      rw [decide_eq_false c1]; rfl
    rw [hf, if_neg (fun q => c1 ((nI_eq (by omega) (by omega)).mp q)), ff]
    by_cases ck : nI kk = 1
    · rw [if_pos ck]
    · rw [if_neg ck]
theorem iw_m {N : Nat} (hN : 200000 ≤ N) {B : Nat → Nat} {n p s e kk : Nat} {vm : US} (hB : MB vm B n) (hM : MT vm B s e kk) (tok : Tok B n p s e kk) : f_X12_isWord N vm 116 104 105 110 103 0 = some (wdB B s e 0) ∧ f_X12_isWord N vm 99 117 116 0 0 0 = some (wdB B s e 1) ∧ f_X12_isWord N vm 100 97 109 112 0 0 = some (wdB B s e 2) ∧ f_X12_isWord N vm 101 114 114 97 110 100 = some (wdB B s e 3) ∧ f_X12_isWord N vm 114 117 108 101 0 0 = some (wdB B s e 4) := by
  have hh : ∀ k, k < 5 → b_X12_isWord_29 N vm (nI (wc k 0)) (nI (wc k 1)) (nI (wc k 2)) (nI (wc k 3)) (nI (wc k 4)) (nI (wc k 5)) (nI (wl k)) = some (wdB B s e k) := fun k hk => iw_29 hN (c := fun i => nI (wc k i)) hB hM tok hk (fun _ _ => rfl)
  refine ⟨?_, ?_, ?_, ?_, ?_⟩
  · unfold f_X12_isWord
    rw [if_neg (by decide), if_neg (by decide), if_pos (by decide)]
    exact hh 0 (by decide)
  · unfold f_X12_isWord
    rw [if_pos (by decide)]
    exact hh 1 (by decide)
  · unfold f_X12_isWord
    rw [if_neg (by decide), if_pos (by decide)]
    exact hh 2 (by decide)
  · unfold f_X12_isWord
    rw [if_neg (by decide), if_neg (by decide), if_neg (by decide)]
    exact hh 3 (by decide)
  · unfold f_X12_isWord
    rw [if_neg (by decide), if_pos (by decide)]
    exact hh 4 (by decide)
