/-! the fewest errands: words as numbers -/
def cd_A (a : AV) (e o : Nat) : Nat := if e < a.1 8 then act a (a.1 5) e o else o
def cd_S (a : AV) (n : Nat) : Nat := if h : n = 0 then a.1 7 else cd_A a ((n - 1) % a.1 8) (cd_S a ((n - 1) / a.1 8))
termination_by n
decreasing_by
  have := Nat.div_le_self (n - 1) (a.1 8)
  omega
def cd_l (E : Nat) (n : Nat) : Nat := if h : n = 0 then 0 else cd_l E ((n - 1) / E) + 1
termination_by n
decreasing_by
  have := Nat.div_le_self (n - 1) E
  omega
theorem cd_S0 (a : AV) : cd_S a 0 = a.1 7 := by
  rw [cd_S, dif_pos rfl]
theorem cd_S1 (a : AV) (n : Nat) : cd_S a (n + 1) = cd_A a (n % a.1 8) (cd_S a (n / a.1 8)) := by
  rw [cd_S, dif_neg (by omega), show n + 1 - 1 = n by omega]
theorem cd_l0 (E : Nat) : cd_l E 0 = 0 := by
  rw [cd_l, dif_pos rfl]
theorem cd_l1 (E n : Nat) : cd_l E (n + 1) = cd_l E (n / E) + 1 := by
  rw [cd_l, dif_neg (by omega), show n + 1 - 1 = n by omega]
theorem cd_dm {E u e : Nat} (he : e < E) : (E * u + e) / E = u ∧ (E * u + e) % E = e := by
  have := od_sk (c := u) he
  rw [Nat.mul_comm] at this
  exact this
theorem cd_S2 (a : AV) {u e : Nat} (he : e < a.1 8) : cd_S a (a.1 8 * u + e + 1) = act a (a.1 5) e (cd_S a u) := by
  rw [cd_S1, (cd_dm he).1, (cd_dm he).2]
  unfold cd_A
  rw [if_pos he]
theorem cd_l2 {E u e : Nat} (he : e < E) : cd_l E (E * u + e + 1) = cd_l E u + 1 := by
  rw [cd_l1, (cd_dm he).1]
theorem cd_S_lt {a : AV} (hv : Valid a) (n : Nat) : cd_S a n < 2 ^ a.1 0 := by
  induction n using Nat.strongRecOn with
  | ind n ih =>
    rcases Nat.eq_zero_or_pos n with rfl | hp
    · rw [cd_S0]; exact hv.2.2.2.1
    · obtain ⟨n, rfl⟩ : ∃ j, n = j + 1 := ⟨n - 1, by omega⟩
      rw [cd_S1]
      unfold cd_A
      split
      · exact act_lt _ _ _ _
      · exact ih _ (by have := Nat.div_le_self n (a.1 8); omega)
def cd_f (a : AV) (n : Nat) : Prop := ∀ k, k < n → cd_S a k ≠ cd_S a n
theorem cd_par {a : AV} (h0 : 0 < a.1 8) {n : Nat} (h : cd_f a (n + 1)) : cd_f a (n / a.1 8) := by
  intro k hk e
  have hm := Nat.mod_lt n h0
  have hd := Nat.div_add_mod n (a.1 8)
  have hk2 : a.1 8 * (k + 1) ≤ a.1 8 * (n / a.1 8) := Nat.mul_le_mul_left _ hk
  rw [Nat.mul_succ] at hk2
  apply h (a.1 8 * k + n % a.1 8 + 1) (by omega)
  rw [cd_S2 a hm, e, cd_S1]
  unfold cd_A
  rw [if_pos hm]
theorem cd_f0 {a : AV} (h0 : a.1 8 = 0) {n : Nat} (h : cd_f a n) : n = 0 := by
  rcases Nat.eq_zero_or_pos n with e | hp
  · exact e
  · obtain ⟨n, rfl⟩ : ∃ j, n = j + 1 := ⟨n - 1, by omega⟩
    exfalso
    apply h 0 (by omega)
    rw [cd_S1]
    unfold cd_A
    rw [if_neg (by omega), h0, Nat.div_zero]
theorem cd_rep (a : AV) (n : Nat) : ∃ m, m ≤ n ∧ cd_S a m = cd_S a n ∧ cd_f a m := by
  induction n using Nat.strongRecOn with
  | ind n ih =>
    by_cases c : cd_f a n
    · exact ⟨n, Nat.le_refl _, rfl, c⟩
    · have : ∃ k, k < n ∧ cd_S a k = cd_S a n := by
        apply Classical.byContradiction
        intro q
        exact c (fun k hk e => q ⟨k, hk, e⟩)
      obtain ⟨k, k1, k2⟩ := this
      obtain ⟨m, m1, m2, m3⟩ := ih k k1
      exact ⟨m, by omega, m2.trans k2, m3⟩
theorem cnt_cg {f g : Nat → Bool} : ∀ n, (∀ x, x < n → g x = f x) → cnt g n = cnt f n := by
  intro n
  induction n with
  | zero => intro _; rfl
  | succ n ih =>
    intro h
    show cnt g n + (if g n then 1 else 0) = cnt f n + (if f n then 1 else 0)
    rw [ih (fun x hx => h x (by omega)), h n (by omega)]
theorem cnt_up {f g : Nat → Bool} {z : Nat} (hf : f z = false) (hg : g z = true) (h : ∀ x, x ≠ z → g x = f x) : ∀ n, z < n → cnt g n = cnt f n + 1 := by
  intro n
  induction n with
  | zero => intro hz; omega
  | succ n ih =>
    intro hz
    show cnt g n + (if g n then 1 else 0) = cnt f n + (if f n then 1 else 0) + 1
    by_cases c : z = n
    · subst c
      rw [hf, hg, cnt_cg z (fun x hx => h x (by omega))]
      rfl
    · rw [ih (by omega), h n (by omega)]
      omega
theorem cnt_lt {f : Nat → Bool} {z : Nat} (hf : f z = false) : ∀ n, z < n → cnt f n < n := by
  intro n
  induction n with
  | zero => intro hz; omega
  | succ n ih =>
    intro hz
    show cnt f n + (if f n then 1 else 0) < n + 1
    by_cases c : z = n
    · subst c
      rw [hf]
      have := cnt_le f z
      rw [if_neg (by decide)]
      omega
    · have := ih (by omega)
      split <;> omega
theorem nI_nm1 {n : Nat} (h : n < 2 ^ 31) : ¬ nI n = -1 := by
  intro e
  have := nI_toInt h
  rw [e, show (-1 : Int32).toInt = -1 from by decide] at this
  omega
def BQ (vd : US) (a : AV) (q : Nat → Nat) (K T : Nat) : Prop :=
  (∀ i, i < K → cd_f a (q i) ∧ q i < T ∧ cd_l (a.1 8) (q i) ≤ i ∧ vd.2.2 11 i = nI (cd_S a (q i)) ∧ vd.2.2 8 (cd_S a (q i)) = nI (cd_l (a.1 8) (q i)) ∧ (0 < q i → vd.2.2 9 (cd_S a (q i)) = nI (cd_S a ((q i - 1) / a.1 8)) ∧ vd.2.2 10 (cd_S a (q i)) = nI ((q i - 1) % a.1 8))) ∧
  (∀ i j, i < j → j < K → q i < q j) ∧
  (∀ z, z < 32 → (∀ i, i < K → cd_S a (q i) ≠ z) → vd.2.2 8 z = -1) ∧
  cnt (fun z => decide (vd.2.2 8 z ≠ -1)) 32 = K ∧ DayF vd a (a.1 5)
def BB (a : AV) (q : Nat → Nat) (K T : Nat) : Prop := ∀ n, n < T → cd_f a n → ∃ i, i < K ∧ q i = n
theorem cd_adv {vd : US} {a : AV} {q : Nat → Nat} {K T j : Nat} (hb : BQ vd a q K T) (hB : BB a q K (a.1 8 * q j + a.1 8 + 1)) (hT : T ≤ a.1 8 * q j + a.1 8 + 1) (hj : j + 1 < K) : BB a q K (a.1 8 * q (j + 1) + 1) := by
  intro n hn hf
  by_cases c : n < a.1 8 * q j + a.1 8 + 1
  · exact hB n c hf
  · rcases Nat.eq_zero_or_pos (a.1 8) with h0 | h0
    · rw [h0] at c hn; omega
    · obtain ⟨m, rfl⟩ : ∃ m, n = m + 1 := ⟨n - 1, by omega⟩
      have hp := cd_par h0 hf
      have h1 : q j < m / a.1 8 := by
        rw [Nat.lt_iff_add_one_le, Nat.le_div_iff_mul_le h0, Nat.mul_comm, Nat.mul_succ]
        omega
      have h2 : m / a.1 8 < q (j + 1) := by
        rw [Nat.div_lt_iff_lt_mul h0, Nat.mul_comm]
        omega
      have h3 := (hb.1 (j + 1) hj).2.1
      obtain ⟨i, i1, i2⟩ := hB (m / a.1 8) (by omega) hp
      exfalso
      rcases Nat.lt_or_ge j i with g | g
      · rcases Nat.lt_or_ge (j + 1) i with g2 | g2
        · have := hb.2.1 (j + 1) i g2 i1; omega
        · have : i = j + 1 := by omega
          subst this; omega
      · rcases Nat.lt_or_ge i j with g2 | g2
        · have := hb.2.1 i j g2 (by omega); omega
        · have : i = j := by omega
          subst this; omega
theorem cd_end {vd : US} {a : AV} {q : Nat → Nat} {K T j : Nat} (hb : BQ vd a q K T) (hB : BB a q K (a.1 8 * q j + a.1 8 + 1)) (hj : j + 1 = K) (n : Nat) : cd_f a n → n < a.1 8 * q j + a.1 8 + 1 := by
  induction n using Nat.strongRecOn with
  | ind n ih =>
    intro hf
    rcases Nat.eq_zero_or_pos (a.1 8) with h0 | h0
    · have := cd_f0 h0 hf; omega
    · rcases Nat.eq_zero_or_pos n with h1 | h1
      · omega
      · obtain ⟨m, rfl⟩ : ∃ m, n = m + 1 := ⟨n - 1, by omega⟩
        have hp := cd_par h0 hf
        have hdl := Nat.div_le_self m (a.1 8)
        have := ih (m / a.1 8) (by omega) hp
        obtain ⟨i, i1, i2⟩ := hB _ this hp
        have h2 : m / a.1 8 ≤ q j := by
          rw [← i2]
          rcases Nat.lt_or_ge i j with g | g
          · exact Nat.le_of_lt (hb.2.1 i j g (by omega))
          · have : i = j := by omega
            subst this; exact Nat.le_refl _
        have h3 := Nat.div_add_mod m (a.1 8)
        have h4 := Nat.mod_lt m h0
        have h5 : a.1 8 * (m / a.1 8) ≤ a.1 8 * q j := Nat.mul_le_mul_left _ h2
        omega
theorem bq_T {vd : US} {a : AV} {q : Nat → Nat} {K T T' : Nat} (h : BQ vd a q K T) (hT : T ≤ T') : BQ vd a q K T' := by
  refine ⟨fun i hi => ?_, h.2⟩
  obtain ⟨h1, h2, h3⟩ := h.1 i hi
  exact ⟨h1, by omega, h3⟩
theorem bq_K {vd : US} {a : AV} {q : Nat → Nat} {K T : Nat} (h : BQ vd a q K T) : K ≤ 32 := by
  have := cnt_le (fun z => decide (vd.2.2 8 z ≠ -1)) 32
  rw [h.2.2.2.1] at this
  exact this
/-- one errand of one waiting set -/
theorem fc_i {N : Nat} {g : US → US → US → Int32 → Int32 → Option (US × US)} {v sw : US} {a : AV} (hv : Valid a) {j : Nat} : ∀ d e k vd q K, e + d = a.1 8 → d < k → j < K → BQ vd a q K (a.1 8 * q j + e + 1) → BB a q K (a.1 8 * q j + e + 1) → ∃ vd' q' K', f_X0_findCodes_76 N g k vd v sw (nI K) (nI j) (nI (cd_S a (q j))) (nI e) = g vd' v sw (nI K') (nI (j + 1)) ∧ K ≤ K' ∧ q' j = q j ∧ BQ vd' a q' K' (a.1 8 * q j + a.1 8 + 1) ∧ BB a q' K' (a.1 8 * q j + a.1 8 + 1) := by
  have h8 := hv.2.2.2.2.1
  have h5 := hv.1
  intro d
  induction d with
  | zero =>
    intro e k vd q K he hk hj hb hB
    obtain ⟨k, rfl⟩ : ∃ j, k = j + 1 := ⟨k - 1, by omega⟩
    have : e = a.1 8 := by omega
    subst this
    refine ⟨vd, q, K, ?_, Nat.le_refl _, rfl, hb, hB⟩
    show b_X0_findCodes_76 N _ _ _ _ _ _ _ _ _ = _
    unfold b_X0_findCodes_76
    rw [hb.2.2.2.2.1, if_pos (nI_le (Nat.le_refl _) (by omega)), nI_1]
  | succ d ih =>
    intro e k vd q K he hk hj hb hB
    obtain ⟨k, rfl⟩ : ∃ j, k = j + 1 := ⟨k - 1, by omega⟩
    have hea : e < a.1 8 := by omega
    have hK := bq_K hb
    have hS := cd_S_lt hv (q j)
    have hz := act_lt a (a.1 5) e (cd_S a (q j))
    have hS32 := lt32 h5 hS
    have hz32 := lt32 h5 hz
    have eT := cd_S2 a (u := q j) hea
    obtain ⟨j1, j2, j3, j4, j5, j6⟩ := hb.1 j hj
    show ∃ vd' q' K', b_X0_findCodes_76 N _ _ _ _ _ _ _ _ _ = _ ∧ _
    unfold b_X0_findCodes_76
    rw [hb.2.2.2.2.1, if_neg (nI_nle2 (a := a.1 8) hea (by omega)), bh_d hv (hb.2.2.2.2.2 e hea) hea hS, bs]
    have ckz : ∀ {α : Type} (k : Option α), (if nI (act a (a.1 5) e (cd_S a (q j))) < 0 ∨ 32 ≤ (nI (act a (a.1 5) e (cd_S a (q j)))).toNatClampNeg then none else k) = k := fun k => ck_in hz32 (by decide)
    have ckS : ∀ {α : Type} (k : Option α), (if nI (cd_S a (q j)) < 0 ∨ 32 ≤ (nI (cd_S a (q j))).toNatClampNeg then none else k) = k := fun k => ck_in hS32 (by decide)
    simp only [ckz, ckS, bnd_eq, nI_1]
    rw [nI_clamp (n := act a (a.1 5) e (cd_S a (q j))) (by omega), nI_clamp (n := cd_S a (q j)) (by omega)]
    by_cases c : vd.2.2 8 (act a (a.1 5) e (cd_S a (q j))) = -1
    · have hno : ∀ i, i < K → cd_S a (q i) ≠ act a (a.1 5) e (cd_S a (q j)) := by
        intro i hi eq
        have h3 := hb.1 i hi
        rw [eq] at h3
        rw [h3.2.2.2.2.1] at c
        exact nI_nm1 (by omega) c
      have hfr : cd_f a (a.1 8 * q j + e + 1) := by
        intro n hn eq
        obtain ⟨m, m1, m2, m3⟩ := cd_rep a n
        obtain ⟨i, i1, i2⟩ := hB m (by omega) m3
        apply hno i i1
        rw [i2, m2, eq, eT]
      have hK2 : K < 32 := by
        have := cnt_lt (f := fun z => decide (vd.2.2 8 z ≠ -1)) (z := act a (a.1 5) e (cd_S a (q j))) (by rw [c]; rfl) 32 hz32
        rw [hb.2.2.2.1] at this
        exact this
      rw [if_pos c, if_pos (show nI K < 32 from nI_lt (b := 32) hK2 (by decide)), j5, ck_in (by omega) (by decide), nI_clamp (by omega), nI_1]
      obtain ⟨vd', q', K', r1, r2, r3, r4, r5⟩ := ih (e + 1) k (upa (upa (upa (upa vd 8 (act a (a.1 5) e (cd_S a (q j))) (nI (cd_l (a.1 8) (q j) + 1))) 9 (act a (a.1 5) e (cd_S a (q j))) (nI (cd_S a (q j)))) 10 (act a (a.1 5) e (cd_S a (q j))) (nI e)) 11 K (nI (act a (a.1 5) e (cd_S a (q j))))) (updN q K (a.1 8 * q j + e + 1)) (K + 1) (by omega) (by omega) (by omega) (by
        have eqj : updN q K (a.1 8 * q j + e + 1) j = q j := if_neg (by omega)
        rw [eqj]
        refine ⟨fun i hi => ?_, fun i i' h1 h2 => ?_, fun z hz2 h => ?_, ?_, hb.2.2.2.2.1, hb.2.2.2.2.2⟩
        · by_cases ci : i = K
          · have eq : updN q K (a.1 8 * q j + e + 1) i = a.1 8 * q j + e + 1 := if_pos ci
            rw [eq, eT, cd_l2 hea]
            refine ⟨hfr, by omega, by omega, ?_, ?_, fun _ => ⟨?_, ?_⟩⟩
            · subst ci; exact if_pos rfl
            · show upd (vd.2.2 8) _ _ _ = _; rw [pk_us]
            · show upd (vd.2.2 9) _ _ _ = _
              rw [pk_us, show a.1 8 * q j + e + 1 - 1 = a.1 8 * q j + e by omega, (cd_dm hea).1]
            · show upd (vd.2.2 10) _ _ _ = _
              rw [pk_us, show a.1 8 * q j + e + 1 - 1 = a.1 8 * q j + e by omega, (cd_dm hea).2]
          · have eq : updN q K (a.1 8 * q j + e + 1) i = q i := if_neg ci
            have hi2 : i < K := by omega
            have hn := hno i hi2
            rw [eq]
            obtain ⟨g1, g2, g3, g4, g5, g6⟩ := hb.1 i hi2
            refine ⟨g1, by omega, g3, ?_, ?_, fun h => ⟨?_, ?_⟩⟩
            · show upd (vd.2.2 11) _ _ _ = _; rw [pk_un ci]; exact g4
            · show upd (vd.2.2 8) _ _ _ = _; rw [pk_un hn]; exact g5
            · show upd (vd.2.2 9) _ _ _ = _; rw [pk_un hn]; exact (g6 h).1
            · show upd (vd.2.2 10) _ _ _ = _; rw [pk_un hn]; exact (g6 h).2
        · have eq : updN q K (a.1 8 * q j + e + 1) i = q i := if_neg (by omega)
          rw [eq]
          by_cases ci : i' = K
          · have eq2 : updN q K (a.1 8 * q j + e + 1) i' = a.1 8 * q j + e + 1 := if_pos ci
            rw [eq2]
            exact (hb.1 i (by omega)).2.1
          · have eq2 : updN q K (a.1 8 * q j + e + 1) i' = q i' := if_neg ci
            rw [eq2]
            exact hb.2.1 i i' h1 (by omega)
        · show upd (vd.2.2 8) _ _ _ = _
          have hne : z ≠ act a (a.1 5) e (cd_S a (q j)) := by
            intro eq
            apply h K (by omega)
            have eq2 : updN q K (a.1 8 * q j + e + 1) K = a.1 8 * q j + e + 1 := if_pos rfl
            rw [eq2, eT, eq]
          rw [pk_un hne]
          refine hb.2.2.1 z hz2 (fun i hi => ?_)
          have := h i (by omega)
          have eq : updN q K (a.1 8 * q j + e + 1) i = q i := if_neg (by omega)
          rw [eq] at this
          exact this
        · have := cnt_up (f := fun z => decide (vd.2.2 8 z ≠ -1)) (g := fun z => decide (upd (vd.2.2 8) (act a (a.1 5) e (cd_S a (q j))) (nI (cd_l (a.1 8) (q j) + 1)) z ≠ -1)) (z := act a (a.1 5) e (cd_S a (q j))) (by rw [c]; rfl) (by
            show decide (upd _ _ _ _ ≠ -1) = true
            rw [pk_us, decide_eq_true_iff]
            exact nI_nm1 (by omega)) (fun x hx => by
            show decide (upd _ _ _ _ ≠ -1) = _
            rw [pk_un hx]) 32 hz32
          rw [hb.2.2.2.1] at this
          exact this) (by
        have eqj : updN q K (a.1 8 * q j + e + 1) j = q j := if_neg (by omega)
        rw [eqj]
        intro n hn hf
        by_cases cn : n = a.1 8 * q j + e + 1
        · exact ⟨K, by omega, (if_pos rfl).trans cn.symm⟩
        · obtain ⟨i, i1, i2⟩ := hB n (by omega) hf
          exact ⟨i, by omega, (if_neg (by omega)).trans i2⟩)
      have eqj : updN q K (a.1 8 * q j + e + 1) j = q j := if_neg (by omega)
      rw [eqj] at r1 r3 r4 r5
      exact ⟨vd', q', K', r1, by omega, r3, r4, r5⟩
    · rw [if_neg c]
      refine ih (e + 1) k vd q K (by omega) (by omega) hj (bq_T hb (by omega)) (fun n hn hf => ?_)
      by_cases cn : n = a.1 8 * q j + e + 1
      · exfalso
        subst cn
        apply c
        refine hb.2.2.1 _ hz32 (fun i hi eq => ?_)
        apply hf (q i) (hb.1 i hi).2.1
        rw [eq, eT]
      · exact hB n (by omega) hf
theorem fc_o {N : Nat} (hN : 200000 ≤ N) {v sw : US} {a : AV} (hv : Valid a) : ∀ d j k vd q K T, j + d = 32 → d < k → (j < K ∧ T = a.1 8 * q j + 1 ∨ j = K ∧ ∀ n, cd_f a n → n < T) → BQ vd a q K T → BB a q K T → ∃ vd' q' K' T', f_X0_findCodes_54 N k vd v sw (nI K) (nI j) = some (vd', sw) ∧ BQ vd' a q' K' T' ∧ ∀ n, cd_f a n → ∃ i, i < K' ∧ q' i = n := by
  have h8 := hv.2.2.2.2.1
  intro d
  induction d with
  | zero =>
    intro j k vd q K T hj hk hc hb hB
    obtain ⟨k, rfl⟩ : ∃ j, k = j + 1 := ⟨k - 1, by omega⟩
    have hK := bq_K hb
    rcases hc with ⟨c1, c2⟩ | ⟨c1, c2⟩
    · omega
    · refine ⟨vd, q, K, T, ?_, hb, fun n hn => hB n (c2 n hn) hn⟩
      show b_X0_findCodes_54 N _ _ _ _ _ _ = _
      unfold b_X0_findCodes_54
      rw [if_pos (nI_le (by omega) (by omega))]
  | succ d ih =>
    intro j k vd q K T hj hk hc hb hB
    obtain ⟨k, rfl⟩ : ∃ j, k = j + 1 := ⟨k - 1, by omega⟩
    have hK := bq_K hb
    rcases hc with ⟨c1, c2⟩ | ⟨c1, c2⟩
    · subst c2
      obtain ⟨vd1, q1, K1, r1, r2, r3, r4, r5⟩ := fc_i (N := N) (g := f_X0_findCodes_54 N k) (v := v) (sw := sw) hv (j := j) (a.1 8) 0 N vd q K (by omega) (by omega) c1 hb hB
      have r1 : f_X0_findCodes_76 N (f_X0_findCodes_54 N k) N vd v sw (nI K) (nI j) (nI (cd_S a (q j))) 0 = _ := r1
      show ∃ vd' q' K' T', b_X0_findCodes_54 N _ _ _ _ _ _ = _ ∧ _
      unfold b_X0_findCodes_54
      rw [if_neg (nI_nle2 (a := K) c1 (by omega)), if_neg (show ¬ (32 : Int32) ≤ nI j from nI_nle2 (a := 32) (by omega) (by decide)), ck_in (by omega) (by decide), nI_clamp (by omega), (hb.1 j c1).2.2.2.1, r1]
      rw [← r3] at r4 r5
      rcases Nat.lt_or_ge (j + 1) K1 with g | g
      · refine ih (j + 1) k vd1 q1 K1 (a.1 8 * q1 (j + 1) + 1) (by omega) (by omega) (Or.inl ⟨g, rfl⟩) (bq_T r4 ?_) (cd_adv r4 r5 (Nat.le_refl _) g)
        have : q1 j + 1 ≤ q1 (j + 1) := r4.2.1 j (j + 1) (by omega) g
        have := Nat.mul_le_mul_left (a.1 8) this
        rw [Nat.mul_succ] at this
        omega
      · exact ih (j + 1) k vd1 q1 K1 (a.1 8 * q1 j + a.1 8 + 1) (by omega) (by omega) (Or.inr ⟨by omega, cd_end r4 r5 (by omega)⟩) r4 r5
    · refine ⟨vd, q, K, T, ?_, hb, fun n hn => hB n (c2 n hn) hn⟩
      show b_X0_findCodes_54 N _ _ _ _ _ _ = _
      unfold b_X0_findCodes_54
      rw [if_pos (nI_le (by omega) (by omega))]
theorem fc_s {N : Nat} (hN : 200000 ≤ N) {v sw : US} {a : AV} (hv : Valid a) (hx : RX v a) : ∀ d i k vd, i + d = 32 → d < k → (∀ z, z < i → vd.2.2 8 z = -1) → DayF vd a (a.1 5) → ∃ vd' q' K' T', f_X0_findCodes_11 N k vd v sw (nI i) = some (vd', sw) ∧ BQ vd' a q' K' T' ∧ ∀ n, cd_f a n → ∃ i, i < K' ∧ q' i = n := by
  have h8 := hv.2.2.2.2.1
  have ho := lt32 hv.1 hv.2.2.2.1
  intro d
  induction d with
  | zero =>
    intro i k vd hi hk h1 hd
    obtain ⟨k, rfl⟩ : ∃ j, k = j + 1 := ⟨k - 1, by omega⟩
    have : i = 32 := by omega
    subst this
    show ∃ vd' q' K' T', b_X0_findCodes_11 N _ _ _ _ _ = _ ∧ _
    unfold b_X0_findCodes_11
    rw [if_pos (by decide), hx.2.2.2.1, ck_in ho (by decide), bnd_eq, nI_clamp (by omega), if_neg (by decide), show (0 : Int32).toNatClampNeg = 0 from by decide]
    refine fc_o hN (v := v) (sw := sw) hv 32 0 N _ (fun _ => 0) 1 1 (by omega) (by omega) (Or.inl ⟨by omega, by show 1 = a.1 8 * 0 + 1; omega⟩) ⟨fun i hi => ?_, fun i j h2 h3 => by omega, fun z hz h => ?_, ?_, hd.1, hd.2⟩ (fun n hn hf => ⟨0, by omega, by show 0 = n; omega⟩)
    · have : i = 0 := by omega
      subst this
      refine ⟨fun k hk => absurd hk (Nat.not_lt_zero k), by show 0 < 1; omega, by rw [cd_l0]; omega, ?_, ?_, fun h => absurd h (Nat.lt_irrefl _)⟩
      · rw [cd_S0]
        exact (pk_us (f := vd.2.2 11) (k := 0) (x := nI (a.1 7)))
      · rw [cd_S0, cd_l0]
        show upd (vd.2.2 8) _ _ _ = _
        rw [pk_us]; rfl
    · have := h 0 (by omega)
      rw [cd_S0] at this
      show upd (vd.2.2 8) _ _ _ = _
      rw [pk_un (fun e => this e.symm)]
      exact h1 z hz
    · have := cnt_up (f := fun _ => false) (g := fun z => decide (upd (vd.2.2 8) (a.1 7) 0 z ≠ -1)) (z := a.1 7) rfl (by
        show decide (upd _ _ _ _ ≠ -1) = true
        rw [pk_us]; rfl)
      have e0 : ∀ n, cnt (fun _ => false) n = 0 := by
        intro n
        induction n with
        | zero => rfl
        | succ n ih => show cnt (fun _ => false) n + 0 = 0; rw [ih]
      have e1 : cnt (fun z => decide (upd (vd.2.2 8) (a.1 7) 0 z ≠ -1)) 32 = cnt (fun z => decide (z = a.1 7)) 32 := by
        apply cnt_cg
        intro x hx2
        show decide (upd _ _ _ _ ≠ -1) = decide (x = a.1 7)
        by_cases c : x = a.1 7
        · rw [c, pk_us, decide_eq_true (rfl : a.1 7 = a.1 7)]; rfl
        · rw [pk_un c, h1 x hx2, decide_eq_false c]; rfl
      have e2 := cnt_up (f := fun _ => false) (g := fun z => decide (z = a.1 7)) (z := a.1 7) rfl (by simp) (fun x hx2 => decide_eq_false hx2) 32 ho
      rw [e0] at e2
      exact e1.trans e2
  | succ d ih =>
    intro i k vd hi hk h1 hd
    obtain ⟨k, rfl⟩ : ∃ j, k = j + 1 := ⟨k - 1, by omega⟩
    show ∃ vd' q' K' T', b_X0_findCodes_11 N _ _ _ _ _ = _ ∧ _
    unfold b_X0_findCodes_11
    rw [if_neg (show ¬ (32 : Int32) ≤ nI i from nI_nle2 (a := 32) (by omega) (by decide)), ck_in (by omega) (by decide), nI_clamp (by omega), nI_1]
    refine ih (i + 1) k _ (by omega) (by omega) (fun z hz => ?_) ⟨hd.1, hd.2⟩
    show upd (vd.2.2 8) _ _ _ = _
    by_cases c : z = i
    · rw [c, pk_us]
    · rw [pk_un c]; exact h1 z (by omega)
theorem fcs_x {N : Nat} (hN : 200000 ≤ N) {v : US} {a : AV} (hv : Valid a) (hx : RX v a) (vd sw : US) : ∃ vd' sw' q' K' T', f_X0_findCodes N vd v sw = some (vd', sw') ∧ BQ vd' a q' K' T' ∧ ∀ n, cd_f a n → ∃ i, i < K' ∧ q' i = n := by
  have hw := lt32 hv.1 hv.2.1
  obtain ⟨vd1, sw1, d1, d2, -⟩ := lk_x hN hv hx hw vd sw
  obtain ⟨vd', q', K', T', r1, r2, r3⟩ := fc_s hN (v := v) (sw := sw1) hv hx 32 0 N vd1 (by omega) (by omega) (fun z hz => absurd hz (Nat.not_lt_zero z)) d2
  refine ⟨vd', sw1, q', K', T', ?_, r2, r3⟩
  unfold f_X0_findCodes
  rw [hx.2.1, d1, bs]
  exact r1
/-- walked back -/
def cd_anc (E n : Nat) : Nat → Nat
  | 0 => n
  | j + 1 => (cd_anc E n j - 1) / E
theorem cd_anc1 (E n : Nat) : ∀ j, cd_anc E ((n - 1) / E) j = cd_anc E n (j + 1) := by
  intro j
  induction j with
  | zero => rfl
  | succ j ih =>
    show (cd_anc E ((n - 1) / E) j - 1) / E = (cd_anc E n (j + 1) - 1) / E
    rw [ih]
theorem st_x {N : Nat} {a : AV} (hv : Valid a) {vd : US} {q : Nat → Nat} {K T : Nat} (hb : BQ vd a q K T) (hB : ∀ n, cd_f a n → ∃ i, i < K ∧ q i = n) {i : Nat} : ∀ d n k, cd_f a n → cd_l (a.1 8) n = i + 1 + d → d < k → f_X0_stepTo_12 N k vd (nI i) (nI (cd_S a n)) (nI (i + d)) = some (nI ((cd_anc (a.1 8) n d - 1) % a.1 8)) := by
  have hK := bq_K hb
  intro d
  induction d with
  | zero =>
    intro n k hf hl hk
    obtain ⟨k, rfl⟩ : ∃ j, k = j + 1 := ⟨k - 1, by omega⟩
    have hS := lt32 hv.1 (cd_S_lt hv n)
    have hn : 0 < n := by
      rcases Nat.eq_zero_or_pos n with e | e
      · rw [e, cd_l0] at hl; omega
      · exact e
    obtain ⟨x, x1, x2⟩ := hB n hf
    have g := hb.1 x x1
    rw [x2] at g
    show b_X0_stepTo_12 N _ _ _ _ _ = _
    unfold b_X0_stepTo_12
    rw [if_pos (nI_le (by omega) (by omega)), ck_in hS (by decide), nI_clamp (by omega), (g.2.2.2.2.2 hn).2]
    rfl
  | succ d ih =>
    intro n k hf hl hk
    obtain ⟨k, rfl⟩ : ∃ j, k = j + 1 := ⟨k - 1, by omega⟩
    have hS := lt32 hv.1 (cd_S_lt hv n)
    have hn : 0 < n := by
      rcases Nat.eq_zero_or_pos n with e | e
      · rw [e, cd_l0] at hl; omega
      · exact e
    obtain ⟨x, x1, x2⟩ := hB n hf
    have g := hb.1 x x1
    rw [x2] at g
    have h0 : 0 < a.1 8 := by
      rcases Nat.eq_zero_or_pos (a.1 8) with e | e
      · have := cd_f0 e hf; omega
      · exact e
    obtain ⟨m, rfl⟩ : ∃ m, n = m + 1 := ⟨n - 1, by omega⟩
    have e1 : m + 1 - 1 = m := by omega
    have hl2 := cd_l1 (a.1 8) m
    have g2 := (g.2.2.2.2.2 hn).1
    rw [e1] at g2
    show b_X0_stepTo_12 N _ _ _ _ _ = _
    unfold b_X0_stepTo_12
    rw [if_neg (nI_nle2 (a := i + (d + 1)) (by omega) (by have := g.2.2.1; omega)), ck_in hS (by decide), nI_clamp (by omega), g2, show i + (d + 1) = (i + d) + 1 by omega, pk_m1, ih (m / a.1 8) k (cd_par h0 hf) (by omega) (by omega)]
    have := cd_anc1 (a.1 8) (m + 1) d
    rw [e1] at this
    rw [this]
