/-! reading: tokens -/
def Run (B : Nat → Nat) (n lo hi p q : Nat) : Prop := p ≤ q ∧ (∀ i, p ≤ i → i < q → i < n ∧ lo ≤ B i ∧ B i ≤ hi) ∧ ¬ (q < n ∧ lo ≤ B q ∧ B q ≤ hi)
theorem run_ex (B : Nat → Nat) (n lo hi : Nat) : ∀ d p, p + d = n → ∃ q, Run B n lo hi p q ∧ q ≤ n := by
  intro d
  induction d with
  | zero =>
    intro p hp
    exact ⟨p, ⟨Nat.le_refl _, fun i h1 h2 => by omega, fun h => by omega⟩, by omega⟩
  | succ d ih =>
    intro p hp
    by_cases c : lo ≤ B p ∧ B p ≤ hi
    · obtain ⟨q, ⟨h1, h2, h3⟩, h4⟩ := ih (p + 1) (by omega)
      refine ⟨q, ⟨by omega, fun i i1 i2 => ?_, h3⟩, h4⟩
      by_cases ci : i = p
      · rw [ci]; exact ⟨by omega, c⟩
      · exact h2 i (by omega) i2
    · exact ⟨p, ⟨Nat.le_refl _, fun i h1 h2 => by omega, fun h => c h.2⟩, by omega⟩
theorem Run.nx {B : Nat → Nat} {n lo hi p q : Nat} (h : Run B n lo hi p q) (hp : p < q) : Run B n lo hi (p + 1) q := ⟨hp, fun i h1 h2 => h.2.1 i (by omega) h2, h.2.2⟩
theorem Run.le {B : Nat → Nat} {n lo hi p q : Nat} (h : Run B n lo hi p q) (hp : p ≤ n) : q ≤ n := by
  rcases Nat.lt_or_ge n q with c | c
  · have := (h.2.1 n hp c).1; omega
  · exact c
def TB (tx : Nat → Int32) (B : Nat → Nat) (n : Nat) : Prop := n ≤ 200 ∧ ∀ k, k < n → tx k = nI (B k) ∧ B k < 256
theorem er_x {N : Nat} {vr : US} {tx : Nat → Int32} {B : Nat → Nat} {n lo hi q : Nat} (hT : TB tx B n) (h4 : vr.1 4 = nI n) (hlo : lo < 256) (hhi : hi < 256) : ∀ d p K, p + d = q → d < K → Run B n lo hi p q → p ≤ n → f_X5_endOfRun_3 N K vr tx (nI lo) (nI hi) (nI p) = some (nI q) := by
  have h200 := hT.1
  intro d
  induction d with
  | zero =>
    intro p K hp hK hR hpn
    obtain ⟨K, rfl⟩ : ∃ j, K = j + 1 := ⟨K - 1, by omega⟩
    have : p = q := by omega
    subst this
    show b_X5_endOfRun_3 N _ _ _ _ _ _ = _
    unfold b_X5_endOfRun_3
    rw [h4]
    by_cases c : n ≤ p
    · rw [if_pos (nI_le c (by omega))]
    · have hb := hT.2 p (by omega)
      rw [if_neg (nI_nle2 (a := n) (by omega) (by omega)), ck_in (by omega) (by decide), ck_in (by omega) (by decide), nI_clamp (by omega), hb.1]
      by_cases c2 : B p < lo
      · rw [if_pos (nI_lt c2 (by omega))]
      · rw [if_neg (nI_nlt (by omega) (by omega))]
        have c3 : hi < B p := by
          have := hR.2.2
          omega
        rw [if_pos (nI_lt c3 (by omega))]
  | succ d ih =>
    intro p K hp hK hR hpn
    obtain ⟨K, rfl⟩ : ∃ j, K = j + 1 := ⟨K - 1, by omega⟩
    have g := hR.2.1 p (Nat.le_refl _) (by omega)
    have hb := hT.2 p g.1
    show b_X5_endOfRun_3 N _ _ _ _ _ _ = _
    unfold b_X5_endOfRun_3
    rw [h4, if_neg (nI_nle2 (a := n) g.1 (by omega)), ck_in (by omega) (by decide), ck_in (by omega) (by decide), nI_clamp (by omega), hb.1, if_neg (nI_nlt g.2.1 (by omega)), if_neg (nI_nlt g.2.2 (by omega)), nI_1]
    exact ih (p + 1) K (by omega) (by omega) (hR.nx (by omega)) (by omega)
/-- a token: where it begins and ends, its kind, its value -/
def tv (B : Nat → Nat) (s e : Nat) : Nat := if e - s = 1 then B s - 48 else 10 * (B s - 48) + (B (s + 1) - 48)
def Tok (B : Nat → Nat) (n p s e k : Nat) : Prop := p ≤ n ∧ Run B n 32 32 p s ∧ s ≤ n ∧
  ((s = n ∧ e = s ∧ k = 0) ∨ (s < n ∧ 97 ≤ B s ∧ B s ≤ 122 ∧ Run B n 97 122 s e ∧ k = 1) ∨ (s < n ∧ 48 ≤ B s ∧ B s ≤ 57 ∧ Run B n 48 57 s e ∧ k = if e - s ≤ 2 then 2 else 4) ∨ (s < n ∧ ¬ (97 ≤ B s ∧ B s ≤ 122) ∧ ¬ (48 ≤ B s ∧ B s ≤ 57) ∧ e = s + 1 ∧ k = if B s = 59 then 3 else 4))
theorem tok_ex (B : Nat → Nat) {n p : Nat} (hp : p ≤ n) : ∃ s e k, Tok B n p s e k := by
  obtain ⟨s, hs, hsn⟩ := run_ex B n 32 32 (n - p) p (by omega)
  by_cases c : s = n
  · exact ⟨s, s, 0, hp, hs, hsn, Or.inl ⟨c, rfl, rfl⟩⟩
  · by_cases c1 : 97 ≤ B s ∧ B s ≤ 122
    · obtain ⟨e, he, -⟩ := run_ex B n 97 122 (n - s) s (by omega)
      exact ⟨s, e, 1, hp, hs, hsn, Or.inr (Or.inl ⟨by omega, c1.1, c1.2, he, rfl⟩)⟩
    · by_cases c2 : 48 ≤ B s ∧ B s ≤ 57
      · obtain ⟨e, he, -⟩ := run_ex B n 48 57 (n - s) s (by omega)
        exact ⟨s, e, _, hp, hs, hsn, Or.inr (Or.inr (Or.inl ⟨by omega, c2.1, c2.2, he, rfl⟩))⟩
      · exact ⟨s, s + 1, _, hp, hs, hsn, Or.inr (Or.inr (Or.inr ⟨by omega, c1, c2, rfl, rfl⟩))⟩
theorem Run.lt {B : Nat → Nat} {n lo hi s e : Nat} (h : Run B n lo hi s e) (hs : s < n) (h1 : lo ≤ B s) (h2 : B s ≤ hi) : s < e := by
  rcases Nat.lt_or_ge s e with c | c
  · exact c
  · have : e = s := by have := h.1; omega
    subst this
    exact absurd ⟨hs, h1, h2⟩ h.2.2
theorem Tok.bd {B : Nat → Nat} {n p s e k : Nat} (h : Tok B n p s e k) : p ≤ s ∧ s ≤ e ∧ e ≤ n ∧ k ≤ 4 ∧ (k ≠ 0 → s < e) ∧ (k = 0 → s = n) ∧ (k = 2 → 48 ≤ B s ∧ B s ≤ 57 ∧ s < n ∧ Run B n 48 57 s e ∧ e - s ≤ 2) := by
  obtain ⟨h0, h1, h2, h3⟩ := h
  rcases h3 with ⟨a, b, c⟩ | ⟨a, b, c, d, e1⟩ | ⟨a, b, c, d, e1⟩ | ⟨a, b, c, d, e1⟩
  · exact ⟨h1.1, by omega, by omega, by omega, by omega, by omega, by omega⟩
  · have l := d.lt a b c
    have l2 := d.le (by omega)
    exact ⟨h1.1, by omega, by omega, by omega, by omega, by omega, by omega⟩
  · have l := d.lt a b c
    have l2 := d.le (by omega)
    refine ⟨h1.1, by omega, by omega, ?_, by omega, ?_, ?_⟩
    · rw [e1]; split <;> omega
    · intro q; rw [e1] at q; split at q <;> omega
    · intro q
      refine ⟨b, c, a, d, ?_⟩
      rw [e1] at q
      split at q <;> omega
  · refine ⟨h1.1, by omega, by omega, ?_, by omega, ?_, ?_⟩
    · rw [e1]; split <;> omega
    · intro q; rw [e1] at q; split at q <;> omega
    · intro q; rw [e1] at q; split at q <;> omega
theorem Tok.v {B : Nat → Nat} {n p s e : Nat} (h : Tok B n p s e 2) : tv B s e < 100 := by
  obtain ⟨h1, h2, h3, h4, h5, h6, h7⟩ := h.bd
  obtain ⟨g1, g2, g3, g4, g5⟩ := h7 rfl
  have g6 := h5 (by decide)
  unfold tv
  split
  · omega
  · have := g4.2.1 (s + 1) (by omega) (by omega)
    omega
def XT (vr : US) (B : Nat → Nat) (n s e k : Nat) : Prop := vr.1 2 = nI s ∧ vr.1 5 = nI e ∧ vr.1 6 = nI k ∧ (k = 2 → vr.1 7 = nI (tv B s e)) ∧ vr.1 4 = nI n
theorem fig1 {x : Nat} (h : 48 ≤ x) : (10 : Int32) * 0 + nI x - 48 = nI (x - 48) := by
  rw [show (10 : Int32) * 0 = nI 0 from by decide, nI_add, Nat.zero_add, show (48 : Int32) = nI 48 from rfl, pk_sub h]
theorem fig2 {v x : Nat} (h : 48 ≤ x) : (10 : Int32) * nI v + nI x - 48 = nI (10 * v + (x - 48)) := by
  rw [show (10 : Int32) = nI 10 from rfl, pk_mul, nI_add, show (48 : Int32) = nI 48 from rfl, pk_sub (by omega)]
  congr 1
  omega
theorem tf_x {N : Nat} (hN : 200000 ≤ N) {vr : US} {tx : Nat → Int32} {B : Nat → Nat} {n s e : Nat} (hT : TB tx B n) (hs : s < n) (hR : Run B n 48 57 s e) (hse : s < e) (e2 : vr.1 2 = nI s) (e5 : vr.1 5 = nI e) (e7 : vr.1 7 = 0) : ∃ x, f_X5_takeFigures_32 N N vr tx (nI s) = some (upi vr 7 x) ∧ (e - s ≤ 2 → x = nI (tv B s e)) := by
  have h200 := hT.1
  have hen := hR.le (by omega)
  have b1 := hT.2 s hs
  have r1 := hR.2.1 s (Nat.le_refl _) hse
  have ts : nI s + 2 = nI (s + 2) := by rw [show (2 : Int32) = nI 2 from rfl, nI_add]
  have uu : ∀ (x y : Int32), upi (upi vr 7 x) 7 y = upi vr 7 y := by
    intro x y
    unfold upi
    simp only
    congr 1
    funext j
    by_cases c : j = 7
    · rw [if_pos c, if_pos c]
    · rw [if_neg c, if_neg c, if_neg c]
  obtain ⟨k, rfl⟩ : ∃ j, N = j + 1 := ⟨N - 1, by omega⟩
  obtain ⟨k, rfl⟩ : ∃ j, k = j + 1 := ⟨k - 1, by omega⟩
  obtain ⟨k, rfl⟩ : ∃ j, k = j + 1 := ⟨k - 1, by omega⟩
  have step1 : f_X5_takeFigures_32 (k + 1 + 1 + 1) (k + 1 + 1 + 1) vr tx (nI s) = f_X5_takeFigures_32 (k + 1 + 1 + 1) (k + 1 + 1) (upi vr 7 (nI (B s - 48))) tx (nI (s + 1)) := by
    show b_X5_takeFigures_32 (k + 1 + 1 + 1) _ _ _ _ = _
    unfold b_X5_takeFigures_32
    rw [e5, e2, ts, if_neg (nI_nle2 (a := e) hse (by omega)), if_neg (nI_nle2 (a := s + 2) (by omega) (by omega)), ck_in (by omega) (by decide), nI_clamp (by omega), e7, b1.1, fig1 r1.2.1, nI_1]
  rw [step1]
  by_cases c1 : e = s + 1
  · refine ⟨nI (B s - 48), ?_, fun _ => ?_⟩
    · show b_X5_takeFigures_32 (k + 1 + 1 + 1) _ _ _ _ = _
      unfold b_X5_takeFigures_32
      show (if vr.1 5 ≤ nI (s + 1) then _ else _) = _
      rw [e5, if_pos (nI_le (by omega) (by omega))]
    · unfold tv
      rw [if_pos (by omega)]
  · have r2 := hR.2.1 (s + 1) (by omega) (by omega)
    have b2 := hT.2 (s + 1) r2.1
    refine ⟨nI (10 * (B s - 48) + (B (s + 1) - 48)), ?_, fun _ => ?_⟩
    · have step2 : f_X5_takeFigures_32 (k + 1 + 1 + 1) (k + 1 + 1) (upi vr 7 (nI (B s - 48))) tx (nI (s + 1)) = f_X5_takeFigures_32 (k + 1 + 1 + 1) (k + 1) (upi vr 7 (nI (10 * (B s - 48) + (B (s + 1) - 48)))) tx (nI (s + 2)) := by
        show b_X5_takeFigures_32 (k + 1 + 1 + 1) _ _ _ _ = _
        unfold b_X5_takeFigures_32
        show (if vr.1 5 ≤ nI (s + 1) then _ else (if vr.1 2 + 2 ≤ nI (s + 1) then _ else (if nI (s + 1) < 0 ∨ 200 ≤ (nI (s + 1)).toNatClampNeg then none else f_X5_takeFigures_32 _ _ (upi (upi vr 7 (nI (B s - 48))) 7 (10 * nI (B s - 48) + tx (nI (s + 1)).toNatClampNeg - 48)) tx (nI (s + 1) + 1)))) = _
        rw [e5, e2, ts, if_neg (nI_nle2 (a := e) (by omega) (by omega)), if_neg (nI_nle2 (a := s + 2) (by omega) (by omega)), ck_in (by omega) (by decide), nI_clamp (by omega), b2.1, fig2 r2.2.1, nI_1, uu]
      rw [step2]
      show b_X5_takeFigures_32 (k + 1 + 1 + 1) _ _ _ _ = _
      unfold b_X5_takeFigures_32
      show (if vr.1 5 ≤ nI (s + 2) then _ else (if vr.1 2 + 2 ≤ nI (s + 2) then _ else _)) = _
      rw [e2, ts, if_pos (show nI (s + 2) ≤ nI (s + 2) from nI_le (Nat.le_refl _) (by omega))]
      by_cases cc : vr.1 5 ≤ nI (s + 2)
      · rw [if_pos cc]
      · rw [if_neg cc]
    · unfold tv
      rw [if_neg (by omega)]
theorem nt_x {N : Nat} (hN : 200000 ≤ N) {vr : US} {tx : Nat → Int32} {B : Nat → Nat} {n p s e k : Nat} (hT : TB tx B n) (h : Tok B n p s e k) (h5 : vr.1 5 = nI p) (h4 : vr.1 4 = nI n) : ∃ vr', f_X5_nextToken N vr tx = some vr' ∧ XT vr' B n s e k ∧ vr'.1 1 = vr.1 1 ∧ vr'.2 = vr.2 := by
  have h200 := hT.1
  obtain ⟨p0, p1, p2, p3⟩ := h
  have e1 : f_X5_endOfRun N vr tx (nI p) 32 32 = some (nI s) := er_x (N := N) hT h4 (lo := 32) (hi := 32) (by decide) (by decide) (s - p) p N (by have := p1.1; omega) (by omega) p1 p0
  unfold f_X5_nextToken
  rw [h5, e1, bs, bnd_eq]
  show ∃ vr', (if nI s < vr.1 4 then _ else _) = _ ∧ _
  rw [h4]
  rcases p3 with ⟨a1, a2, a3⟩ | ⟨a1, a2, a3, a4, a5⟩ | ⟨a1, a2, a3, a4, a5⟩ | ⟨a1, a2, a3, a4, a5⟩
  · rw [if_neg (nI_nlt (by omega) (by omega)), bnd_eq]
    refine ⟨_, rfl, ⟨rfl, ?_, ?_, fun q => by omega, h4⟩, rfl, rfl⟩
    · rw [a2]; rfl
    · rw [a3]; rfl
  · have b1 := hT.2 s a1
    rw [if_pos (nI_lt a1 (by omega))]
    show ∃ vr', (if nI s < 0 ∨ 200 ≤ (nI s).toNatClampNeg then none else (if tx (nI s).toNatClampNeg < 97 then _ else (if nI s < 0 ∨ 200 ≤ (nI s).toNatClampNeg then none else (if 122 < tx (nI s).toNatClampNeg then _ else _)))) = _ ∧ _
    rw [ck_in (by omega) (by decide), ck_in (by omega) (by decide), nI_clamp (by omega), b1.1, if_neg (show ¬ nI (B s) < 97 from nI_nlt (b := 97) a2 (by omega)), if_neg (show ¬ (122 : Int32) < nI (B s) from nI_nlt (a := 122) a3 (by decide)), bnd_eq]
    have e2 : f_X5_endOfRun N (upi (upi (upi vr 2 (nI s)) 5 (nI s)) 6 1) tx (nI s) 97 122 = some (nI e) := er_x (N := N) hT (vr := upi (upi (upi vr 2 (nI s)) 5 (nI s)) 6 1) h4 (lo := 97) (hi := 122) (by decide) (by decide) (e - s) s N (by have := a4.1; omega) (by have := a4.le (by omega); omega) a4 p2
    show ∃ vr', (f_X5_endOfRun N (upi (upi (upi vr 2 (nI s)) 5 (nI s)) 6 1) tx (nI s) 97 122).bind _ = _ ∧ _
    rw [e2, bs, bnd_eq]
    refine ⟨_, rfl, ⟨rfl, rfl, ?_, fun q => by omega, h4⟩, rfl, rfl⟩
    rw [a5]; rfl
  · have b1 := hT.2 s a1
    have hlt := a4.lt a1 a2 a3
    have hle := a4.le (by omega)
    rw [if_pos (nI_lt a1 (by omega))]
    have ck : ∀ {α : Type} (k : Option α), (if nI s < 0 ∨ 200 ≤ (nI s).toNatClampNeg then none else k) = k := fun k => ck_in (by omega) (by decide)
    have e2 : f_X5_endOfRun N (upi (upi vr 2 (nI s)) 5 (nI s)) tx (nI s) 48 57 = some (nI e) := er_x (N := N) hT (vr := upi (upi vr 2 (nI s)) 5 (nI s)) h4 (lo := 48) (hi := 57) (by decide) (by decide) (e - s) s N (by omega) (by omega) a4 p2
    show ∃ vr', (if nI s < 0 ∨ 200 ≤ (nI s).toNatClampNeg then none else (if tx (nI s).toNatClampNeg < 97 then b_X5_nextToken_95 N (upi (upi vr 2 (nI s)) 5 (nI s)) tx else _)) = _ ∧ _
    rw [ck, nI_clamp (by omega), b1.1, if_pos (show nI (B s) < 97 from nI_lt (b := 97) (by omega) (by decide))]
    unfold b_X5_nextToken_95
    show ∃ vr', (if nI s < 0 ∨ 200 ≤ (nI s).toNatClampNeg then none else (if tx (nI s).toNatClampNeg < 48 then _ else (if nI s < 0 ∨ 200 ≤ (nI s).toNatClampNeg then none else (if 57 < tx (nI s).toNatClampNeg then _ else ((f_X5_endOfRun N (upi (upi vr 2 (nI s)) 5 (nI s)) tx (nI s) 48 57).bind _))))) = _ ∧ _
    rw [ck, ck, nI_clamp (by omega), b1.1, if_neg (show ¬ nI (B s) < 48 from nI_nlt (b := 48) a2 (by omega)), if_neg (show ¬ (57 : Int32) < nI (B s) from nI_nlt (a := 57) a3 (by decide)), e2, bs]
    unfold f_X5_takeFigures b_X5_takeFigures_19
    show ∃ vr', Option.bind (α := US) (if 2 < nI e - nI s then _ else _) _ = some vr' ∧ _
    rw [pk_sub (by omega), bnd_eq, bnd_eq]
    have tf : ∀ s0 : Int32, ∃ x, f_X5_takeFigures_32 N N (upi (upi (upi (upi (upi vr 2 (nI s)) 5 (nI s)) 5 (nI e)) 6 s0) 7 0) tx (nI s) = some (upi (upi (upi (upi (upi (upi vr 2 (nI s)) 5 (nI s)) 5 (nI e)) 6 s0) 7 0) 7 x) ∧ (e - s ≤ 2 → x = nI (tv B s e)) := fun s0 => tf_x hN hT a1 a4 hlt rfl rfl rfl
    by_cases c : e - s ≤ 2
    · rw [if_pos c] at a5
      rw [if_neg (show ¬ (2 : Int32) < nI (e - s) from nI_nlt (a := 2) c (by decide))]
      obtain ⟨x, x1, x2⟩ := tf 2
      show ∃ vr', (f_X5_takeFigures_32 N N (upi (upi (upi (upi (upi vr 2 (nI s)) 5 (nI s)) 5 (nI e)) 6 2) 7 0) tx (nI s)).bind _ = _ ∧ _
      rw [x1, bs]
      refine ⟨_, rfl, ⟨rfl, rfl, ?_, fun _ => ?_, h4⟩, rfl, rfl⟩
      · rw [a5]; rfl
      · exact x2 c
    · rw [if_neg c] at a5
      rw [if_pos (show (2 : Int32) < nI (e - s) from nI_lt (a := 2) (by omega) (by omega))]
      obtain ⟨x, x1, x2⟩ := tf 4
      show ∃ vr', (f_X5_takeFigures_32 N N (upi (upi (upi (upi (upi vr 2 (nI s)) 5 (nI s)) 5 (nI e)) 6 4) 7 0) tx (nI s)).bind _ = _ ∧ _
      rw [x1, bs]
      refine ⟨_, rfl, ⟨rfl, rfl, ?_, fun q => by omega, h4⟩, rfl, rfl⟩
      rw [a5]; rfl
  · have b1 := hT.2 s a1
    rw [if_pos (nI_lt a1 (by omega))]
    have ck : ∀ {α : Type} (k : Option α), (if nI s < 0 ∨ 200 ≤ (nI s).toNatClampNeg then none else k) = k := fun k => ck_in (by omega) (by decide)
    have fin : ∃ vr', b_X5_nextToken_146 N (upi (upi vr 2 (nI s)) 5 (nI s)) tx = some vr' ∧ XT vr' B n s e k ∧ vr'.1 1 = vr.1 1 ∧ vr'.2 = vr.2 := by
      unfold b_X5_nextToken_146 b_X5_nextToken_166
      show ∃ vr', (if nI s < 0 ∨ 200 ≤ (nI s).toNatClampNeg then none else (if tx (nI s).toNatClampNeg = 59 then _ else _)) = _ ∧ _
      rw [ck, nI_clamp (by omega), b1.1, bnd_eq, bnd_eq]
      by_cases c : B s = 59
      · rw [if_pos c] at a5
        rw [if_pos (show nI (B s) = 59 by rw [c]; rfl)]
        refine ⟨_, rfl, ⟨rfl, ?_, ?_, fun q => by omega, h4⟩, rfl, rfl⟩
        · show nI s + 1 = _; rw [nI_1, a4]
        · rw [a5]; rfl
      · rw [if_neg c] at a5
        rw [if_neg (show ¬ nI (B s) = 59 from fun q => c ((nI_eq (b := 59) (by omega) (by decide)).mp q))]
        refine ⟨_, rfl, ⟨rfl, ?_, ?_, fun q => by omega, h4⟩, rfl, rfl⟩
        · show nI s + 1 = _; rw [nI_1, a4]
        · rw [a5]; rfl
    have mid : ∃ vr', b_X5_nextToken_95 N (upi (upi vr 2 (nI s)) 5 (nI s)) tx = some vr' ∧ XT vr' B n s e k ∧ vr'.1 1 = vr.1 1 ∧ vr'.2 = vr.2 := by
      unfold b_X5_nextToken_95
      show ∃ vr', (if nI s < 0 ∨ 200 ≤ (nI s).toNatClampNeg then none else (if tx (nI s).toNatClampNeg < 48 then _ else (if nI s < 0 ∨ 200 ≤ (nI s).toNatClampNeg then none else (if 57 < tx (nI s).toNatClampNeg then _ else _)))) = _ ∧ _
      rw [ck, ck, nI_clamp (by omega), b1.1]
      by_cases c : B s < 48
      · rw [if_pos (show nI (B s) < 48 from nI_lt (b := 48) c (by decide))]; exact fin
      · rw [if_neg (show ¬ nI (B s) < 48 from nI_nlt (b := 48) (by omega) (by omega)), if_pos (show (57 : Int32) < nI (B s) from nI_lt (a := 57) (by omega) (by omega))]; exact fin
    show ∃ vr', (if nI s < 0 ∨ 200 ≤ (nI s).toNatClampNeg then none else (if tx (nI s).toNatClampNeg < 97 then b_X5_nextToken_95 N (upi (upi vr 2 (nI s)) 5 (nI s)) tx else (if nI s < 0 ∨ 200 ≤ (nI s).toNatClampNeg then none else (if 122 < tx (nI s).toNatClampNeg then b_X5_nextToken_95 N (upi (upi vr 2 (nI s)) 5 (nI s)) tx else _)))) = _ ∧ _
    rw [ck, ck, nI_clamp (by omega), b1.1]
    by_cases c : B s < 97
    · rw [if_pos (show nI (B s) < 97 from nI_lt (b := 97) c (by decide))]; exact mid
    · rw [if_neg (show ¬ nI (B s) < 97 from nI_nlt (b := 97) (by omega) (by omega)), if_pos (show (122 : Int32) < nI (B s) from nI_lt (a := 122) (by omega) (by omega))]; exact mid
