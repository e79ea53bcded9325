/-! the order that harms least: rows as codes in base errands -/
def od_u (E : Nat) : Nat → Nat → Nat
  | 0, _ => 0
  | p + 1, c => od_u E p (c / E) ||| 2 ^ (c % E)
def od_ok (E : Nat) : Nat → Nat → Bool
  | 0, _ => true
  | p + 1, c => od_ok E p (c / E) && decide (od_u E p (c / E) / 2 ^ (c % E) % 2 = 0)
def od_s (a : AV) : Nat → Nat → Nat
  | 0, _ => a.1 7
  | p + 1, c => act a (a.1 5) (c % a.1 8) (od_s a p (c / a.1 8))
def od_g (a : AV) (e o : Nat) : Nat := hmN a (mn (act a (a.1 5) e o) o) (a.1 0)
def od_h (a : AV) : Nat → Nat → Nat
  | 0, _ => 0
  | p + 1, c => od_h a p (c / a.1 8) + od_g a (c % a.1 8) (od_s a p (c / a.1 8))
def od_d (E p c k : Nat) : Nat := c / E ^ (p - 1 - k) % E
def od_b (a : AV) (s : Nat) : Nat → Nat × Nat
  | 0 => (s, 0)
  | m + 1 => if od_ok (a.1 8) (a.1 8) m = true ∧ od_h a (a.1 8) m < (od_b a s m).1 then (od_h a (a.1 8) m, m) else od_b a s m
theorem od_s_lt {a : AV} (hv : Valid a) : ∀ p c, od_s a p c < 2 ^ a.1 0 := by
  intro p c
  cases p with
  | zero => exact hv.2.2.2.1
  | succ p => exact act_lt _ _ _ _
theorem od_g_le {a : AV} (hv : Valid a) (e o : Nat) : od_g a e o ≤ 45 := by
  have h1 := hmN_le hv (mn (act a (a.1 5) e o) o) (a.1 0) (Nat.le_refl _)
  have h2 := hv.1
  unfold od_g
  omega
theorem od_h_le {a : AV} (hv : Valid a) : ∀ p c, od_h a p c ≤ 45 * p := by
  intro p
  induction p with
  | zero => intro c; exact Nat.le_refl _
  | succ p ih =>
    intro c
    have h1 := ih (c / a.1 8)
    have h2 := od_g_le hv (c % a.1 8) (od_s a p (c / a.1 8))
    show od_h a p (c / a.1 8) + od_g a (c % a.1 8) (od_s a p (c / a.1 8)) ≤ _
    omega
theorem od_orl : ∀ e, e < 5 → ∀ u, u < 32 → (u ||| 2 ^ e < 32 ∧ pcd 5 (u ||| 2 ^ e) = pcd 5 u + (1 - u / 2 ^ e % 2)) := by decide +kernel
theorem od_u_lt {E : Nat} (h0 : 0 < E) (h5 : E ≤ 5) : ∀ p c, od_u E p c < 32 := by
  intro p
  induction p with
  | zero => intro c; show 0 < 32; decide
  | succ p ih =>
    intro c
    have := Nat.mod_lt c h0
    exact (od_orl (c % E) (by omega) _ (ih (c / E))).1
theorem od_pc {E : Nat} (h0 : 0 < E) (h5 : E ≤ 5) : ∀ p c, pcd 5 (od_u E p c) ≤ p ∧ (pcd 5 (od_u E p c) = p ↔ od_ok E p c = true) := by
  intro p
  induction p with
  | zero => intro c; show pcd 5 0 ≤ 0 ∧ (pcd 5 0 = 0 ↔ true = true); decide
  | succ p ih =>
    intro c
    have hm := Nat.mod_lt c h0
    obtain ⟨i1, i2⟩ := ih (c / E)
    have g := (od_orl (c % E) (by omega) _ (od_u_lt h0 h5 p (c / E))).2
    have e1 : od_u E (p + 1) c = od_u E p (c / E) ||| 2 ^ (c % E) := rfl
    have e2 : od_ok E (p + 1) c = (od_ok E p (c / E) && decide (od_u E p (c / E) / 2 ^ (c % E) % 2 = 0)) := rfl
    rw [e1, e2, g, Bool.and_eq_true, decide_eq_true_iff, ← i2]
    have hh := half2 (od_u E p (c / E)) (c % E)
    refine ⟨by omega, ?_, ?_⟩
    · intro q; constructor <;> omega
    · intro q; omega
theorem od_dd (m E r : Nat) : m / E / E ^ r = m / E ^ (r + 1) := by
  rw [Nat.div_div_eq_div_mul, Nat.pow_succ, Nat.mul_comm]
theorem od_pre (a : AV) (p : Nat) : ∀ r m, od_h a p (m / (a.1 8) ^ r) ≤ od_h a (p + r) m := by
  intro r
  induction r with
  | zero => intro m; rw [Nat.pow_zero, Nat.div_one]; exact Nat.le_refl _
  | succ r ih =>
    intro m
    have := ih (m / a.1 8)
    rw [od_dd] at this
    show _ ≤ od_h a (p + r) (m / a.1 8) + _
    omega
theorem od_pok (E p : Nat) : ∀ r m, od_ok E (p + r) m = true → od_ok E p (m / E ^ r) = true := by
  intro r
  induction r with
  | zero => intro m; rw [Nat.pow_zero, Nat.div_one]; exact id
  | succ r ih =>
    intro m h
    have h : (od_ok E (p + r) (m / E) && _) = true := h
    have := ih (m / E) (Bool.and_eq_true _ _ ▸ h).1
    rw [od_dd] at this
    exact this
theorem od_same {a : AV} {s x : Nat} : ∀ d, (∀ m, x ≤ m → m < x + d → ¬ (od_ok (a.1 8) (a.1 8) m = true ∧ od_h a (a.1 8) m < (od_b a s x).1)) → od_b a s (x + d) = od_b a s x := by
  intro d
  induction d with
  | zero => intro _; rfl
  | succ d ih =>
    intro h
    have e := ih (fun m h1 h2 => h m h1 (by omega))
    show (if _ ∧ od_h a (a.1 8) (x + d) < (od_b a s (x + d)).1 then _ else od_b a s (x + d)) = _
    rw [if_neg (by rw [e]; exact h (x + d) (by omega) (by omega)), e]
theorem od_ble (a : AV) (s : Nat) : ∀ m, (od_b a s m).1 ≤ s := by
  intro m
  induction m with
  | zero => exact Nat.le_refl _
  | succ m ih =>
    unfold od_b
    split
    · next h => exact Nat.le_of_lt (Nat.lt_of_lt_of_le h.2 ih)
    · exact ih
theorem od_sk {E c e : Nat} (he : e < E) : (c * E + e) / E = c ∧ (c * E + e) % E = e := by
  constructor
  · rw [Nat.mul_comm, Nat.mul_add_div (by omega), Nat.div_eq_of_lt he, Nat.add_zero]
  · rw [Nat.mul_comm, Nat.mul_add_mod, Nat.mod_eq_of_lt he]
theorem od_dk {E p c e k : Nat} (he : e < E) (hk : k < p) : od_d E (p + 1) (c * E + e) k = od_d E p c k := by
  unfold od_d
  have : p + 1 - 1 - k = (p - 1 - k) + 1 := by omega
  rw [this, ← od_dd, (od_sk he).1]
theorem od_dl {E p c e : Nat} (he : e < E) : od_d E (p + 1) (c * E + e) p = e := by
  unfold od_d
  rw [show p + 1 - 1 - p = 0 by omega, Nat.pow_zero, Nat.div_one, (od_sk he).2]
def XS (vd : US) (a : AV) (s m : Nat) : Prop := DayF vd a (a.1 5) ∧ vd.1 5 = nI (od_b a s m).1 ∧ ((od_b a s m).1 < s → ∀ i, i < a.1 8 → vd.2.2 6 i = nI (od_d (a.1 8) (a.1 8) (od_b a s m).2 i))
theorem or_x {N : Nat} (hN : 200000 ≤ N) {v : US} {a : AV} (hv : Valid a) (hx : RX v a) {s : Nat} (hs : s < 2 ^ 30) : ∀ r p c k vd, p + r = a.1 8 → r < k → od_ok (a.1 8) p c = true → od_h a p c < (od_b a s (c * (a.1 8) ^ r)).1 → XS vd a s (c * (a.1 8) ^ r) → (∀ i, i < p → vd.2.2 7 i = nI (od_d (a.1 8) p c i)) → ∃ vd', f_X0_findRest N k vd v (nI p) (nI (od_u (a.1 8) p c)) (nI (od_s a p c)) (nI (od_h a p c)) = some vd' ∧ XS vd' a s ((c + 1) * (a.1 8) ^ r) ∧ (∀ i, i < p → vd'.2.2 7 i = nI (od_d (a.1 8) p c i)) := by
  have h8 := hv.2.2.2.2.1
  intro r
  induction r with
  | zero =>
    intro p c k vd hp hk hok hlt hX hr
    obtain ⟨k, rfl⟩ : ∃ j, k = j + 1 := ⟨k - 1, by omega⟩
    have : p = a.1 8 := by omega
    subst this
    rw [Nat.pow_zero, Nat.mul_one] at hlt hX
    rw [Nat.pow_zero, Nat.mul_one]
    have e6 : od_b a s (c + 1) = (od_h a (a.1 8) c, c) := by
      show (if _ ∧ _ then _ else _) = _
      rw [if_pos ⟨hok, hlt⟩]
    refine ⟨upr (upi vd 5 (nI (od_h a (a.1 8) c))) 6 (va_cpy (vd.2.2 7) (vd.2.2 6) 0 0 5), ?_, ?_, ?_⟩
    · show b_X0_findRest N _ _ _ _ _ _ _ = _
      unfold b_X0_findRest
      rw [hX.1.1, if_neg (nI_nlt (Nat.le_refl _) (by omega)), bnd_eq]
      rfl
    · refine ⟨⟨hX.1.1, hX.1.2⟩, ?_, ?_⟩
      · rw [e6]; rfl
      · intro _ i hi
        rw [e6]
        show va_cpy (vd.2.2 7) (vd.2.2 6) 0 0 5 i = _
        rw [pk_cpy_in (by omega) (by omega), show 0 + (i - 0) = i by omega]
        exact hr i hi
    · exact hr
  | succ r ih =>
    intro p c k vd hp hk hok hlt hX hr
    obtain ⟨k, rfl⟩ : ∃ j, k = j + 1 := ⟨k - 1, by omega⟩
    have h0 : 0 < a.1 8 := by omega
    have hpw : 0 < (a.1 8) ^ r := Nat.pow_pos h0
    have hu := od_u_lt h0 h8 p c
    have hst := od_s_lt hv p c
    have hhl := od_h_le hv p c
    have hE1 : ∀ e, (c * a.1 8 + e) * (a.1 8) ^ r + (a.1 8) ^ r = (c * a.1 8 + (e + 1)) * (a.1 8) ^ r := by
      intro e
      rw [← Nat.add_assoc, Nat.succ_mul]
    have hE0 : c * (a.1 8) ^ (r + 1) = (c * a.1 8 + 0) * (a.1 8) ^ r := by
      rw [Nat.pow_succ, Nat.mul_comm ((a.1 8) ^ r), ← Nat.mul_assoc, Nat.add_zero]
    have hE2 : (c + 1) * (a.1 8) ^ (r + 1) = (c * a.1 8 + a.1 8) * (a.1 8) ^ r := by
      rw [Nat.pow_succ, Nat.mul_comm ((a.1 8) ^ r), ← Nat.mul_assoc, Nat.succ_mul]
    have key : ∀ d e K vd, e + d = a.1 8 → d < K → XS vd a s ((c * a.1 8 + e) * (a.1 8) ^ r) → (∀ i, i < p → vd.2.2 7 i = nI (od_d (a.1 8) p c i)) → ∃ vd', f_X0_findRest_32 N (f_X0_findRest N k) K vd v (nI p) (nI (od_u (a.1 8) p c)) (nI (od_s a p c)) (nI (od_h a p c)) (nI e) = some vd' ∧ XS vd' a s ((c * a.1 8 + a.1 8) * (a.1 8) ^ r) ∧ (∀ i, i < p → vd'.2.2 7 i = nI (od_d (a.1 8) p c i)) := by
      intro d
      induction d with
      | zero =>
        intro e K vd he hK hX hr
        obtain ⟨K, rfl⟩ : ∃ j, K = j + 1 := ⟨K - 1, by omega⟩
        have : e = a.1 8 := by omega
        subst this
        refine ⟨vd, ?_, hX, hr⟩
        show b_X0_findRest_32 N _ _ _ _ _ _ _ _ _ = _
        unfold b_X0_findRest_32
        rw [hX.1.1, if_pos (nI_le (Nat.le_refl _) (by omega))]
      | succ d ihd =>
        intro e K vd he hK hX hr
        obtain ⟨K, rfl⟩ : ∃ j, K = j + 1 := ⟨K - 1, by omega⟩
        have hea : e < a.1 8 := by omega
        obtain ⟨sk1, sk2⟩ := od_sk (c := c) hea
        have hal := act_lt a (a.1 5) e (od_s a p c)
        have hrng : ∀ m, (c * a.1 8 + e) * (a.1 8) ^ r ≤ m → m < (c * a.1 8 + e) * (a.1 8) ^ r + (a.1 8) ^ r → m / (a.1 8) ^ r = c * a.1 8 + e := by
          intro m h1 h2
          refine Nat.div_eq_of_lt_le h1 ?_
          rw [Nat.succ_mul]; exact h2
        have hskip : (∀ m, (c * a.1 8 + e) * (a.1 8) ^ r ≤ m → m < (c * a.1 8 + e) * (a.1 8) ^ r + (a.1 8) ^ r → ¬ (od_ok (a.1 8) (a.1 8) m = true ∧ od_h a (a.1 8) m < (od_b a s ((c * a.1 8 + e) * (a.1 8) ^ r)).1)) → ∃ vd', f_X0_findRest_32 N (f_X0_findRest N k) K vd v (nI p) (nI (od_u (a.1 8) p c)) (nI (od_s a p c)) (nI (od_h a p c)) (nI (e + 1)) = some vd' ∧ XS vd' a s ((c * a.1 8 + a.1 8) * (a.1 8) ^ r) ∧ (∀ i, i < p → vd'.2.2 7 i = nI (od_d (a.1 8) p c i)) := by
          intro h
          have e9 := od_same (a := a) (s := s) _ h
          rw [hE1] at e9
          refine ihd (e + 1) K vd (by omega) (by omega) ?_ hr
          unfold XS
          rw [e9]
          exact hX
        show ∃ vd', b_X0_findRest_32 N _ _ _ _ _ _ _ _ _ = some vd' ∧ _
        unfold b_X0_findRest_32
        rw [hX.1.1, if_neg (nI_nle2 (a := a.1 8) hea (by omega)), has_x hu (by omega), bs, nI_1 e]
        rcases half2 (od_u (a.1 8) p c) e with q | q
        · rw [q, show decide (0 = 1) = false from rfl, iff0, bh_d hv (hX.1.2 e hea) hea hst, bs, mn_nI _ (lt32 hv.1 hal) _ (lt32 hv.1 hst), harm_x hN hv hx (mn_lt (lt32 hv.1 hal) _), bs, nI_add, hX.2.1]
          have eh : od_h a (p + 1) (c * a.1 8 + e) = od_h a p c + hmN a (mn (act a (a.1 5) e (od_s a p c)) (od_s a p c)) (a.1 0) := by
            show od_h a p ((c * a.1 8 + e) / a.1 8) + od_g a ((c * a.1 8 + e) % a.1 8) (od_s a p ((c * a.1 8 + e) / a.1 8)) = _
            rw [sk1, sk2]; rfl
          have es : od_s a (p + 1) (c * a.1 8 + e) = act a (a.1 5) e (od_s a p c) := by
            show act a (a.1 5) ((c * a.1 8 + e) % a.1 8) (od_s a p ((c * a.1 8 + e) / a.1 8)) = _
            rw [sk1, sk2]
          have eu : od_u (a.1 8) (p + 1) (c * a.1 8 + e) = od_u (a.1 8) p c ||| 2 ^ e := by
            show od_u (a.1 8) p ((c * a.1 8 + e) / a.1 8) ||| 2 ^ ((c * a.1 8 + e) % a.1 8) = _
            rw [sk1, sk2]
          have eo : od_ok (a.1 8) (p + 1) (c * a.1 8 + e) = true := by
            show (od_ok (a.1 8) p ((c * a.1 8 + e) / a.1 8) && decide (od_u (a.1 8) p ((c * a.1 8 + e) / a.1 8) / 2 ^ ((c * a.1 8 + e) % a.1 8) % 2 = 0)) = true
            rw [sk1, sk2, hok, q]; rfl
          rw [← eh, ← es, (fin_bit e (by omega) _ hu).2.2, ← eu]
          have hbl := od_ble a s ((c * a.1 8 + e) * (a.1 8) ^ r)
          have hhl2 := od_h_le hv (p + 1) (c * a.1 8 + e)
          by_cases cc : od_h a (p + 1) (c * a.1 8 + e) < (od_b a s ((c * a.1 8 + e) * (a.1 8) ^ r)).1
          · rw [if_pos (nI_lt cc (by omega)), ck_in (by omega) (by decide), nI_clamp (by omega), nI_1]
            obtain ⟨vd1, q1, q2, q3⟩ := ih (p + 1) (c * a.1 8 + e) k (upa vd 7 p (nI e)) (by omega) (by omega) eo cc ⟨⟨hX.1.1, hX.1.2⟩, hX.2.1, hX.2.2⟩ (fun i hi => by
              show upd (vd.2.2 7) p (nI e) i = _
              by_cases ci : i = p
              · subst ci; rw [pk_us, od_dl hea]
              · rw [pk_un ci, od_dk hea (by omega)]; exact hr i (by omega))
            rw [q1, bs]
            have q2 : XS vd1 a s ((c * a.1 8 + (e + 1)) * (a.1 8) ^ r) := by
              rw [← hE1, ← Nat.succ_mul]; exact q2
            exact ihd (e + 1) K vd1 (by omega) (by omega) q2 (fun i hi => by rw [q3 i (by omega), od_dk hea hi])
          · rw [if_neg (nI_nlt (by omega) (by omega))]
            refine hskip (fun m h1 h2 h3 => cc ?_)
            have := od_pre a (p + 1) r m
            rw [hrng m h1 h2, show p + 1 + r = a.1 8 by omega] at this
            omega
        · rw [q, show decide (1 = 1) = true from rfl, ift]
          refine hskip (fun m h1 h2 h3 => ?_)
          have := od_pok (a.1 8) (p + 1) r m (by rw [show p + 1 + r = a.1 8 by omega]; exact h3.1)
          rw [hrng m h1 h2] at this
          have this : (od_ok (a.1 8) p ((c * a.1 8 + e) / a.1 8) && decide (od_u (a.1 8) p ((c * a.1 8 + e) / a.1 8) / 2 ^ ((c * a.1 8 + e) % a.1 8) % 2 = 0)) = true := this
          rw [sk1, sk2, q, hok] at this
          exact absurd this (by decide)
    rw [hE0] at hX
    rw [hE2]
    obtain ⟨vd', q1, q2, q3⟩ := key (a.1 8) 0 N vd (by omega) (by omega) hX hr
    refine ⟨vd', ?_, q2, q3⟩
    show b_X0_findRest N _ _ _ _ _ _ _ = _
    unfold b_X0_findRest
    rw [hX.1.1, if_pos (nI_lt (by omega) (by omega))]
    exact q1
theorem fo_x {N : Nat} (hN : 200000 ≤ N) {v : US} {a : AV} (hv : Valid a) (hx : RX v a) (vd sw : US) : ∃ vd' sw', f_X0_findOrder N vd v sw = some (vd', sw') ∧ XS vd' a 1000000 ((a.1 8) ^ (a.1 8)) := by
  have h8 := hv.2.2.2.2.1
  have hw := lt32 hv.1 hv.2.1
  obtain ⟨vd1, sw1, d1, d2, -⟩ := lk_x hN hv hx hw vd sw
  obtain ⟨vd2, r1, r2, -⟩ := or_x hN hv hx (s := 1000000) (by decide) (a.1 8) 0 0 6 (upi vd1 5 1000000) (by omega) (by omega) rfl (by rw [Nat.zero_mul]; show 0 < 1000000; decide) (by
    rw [Nat.zero_mul]
    exact ⟨⟨d2.1, d2.2⟩, rfl, fun h => absurd h (Nat.lt_irrefl _)⟩) (fun i hi => absurd hi (Nat.not_lt_zero i))
  have r1 : f_X0_findRest N 6 (upi vd1 5 1000000) v 0 0 (nI (a.1 7)) 0 = some vd2 := r1
  rw [Nat.zero_add, Nat.one_mul] at r2
  refine ⟨vd2, sw1, ?_, r2⟩
  unfold f_X0_findOrder
  rw [hx.2.1, d1, bs, hx.2.2.2.1]
  show (f_X0_findRest N 6 (upi vd1 5 1000000) v 0 0 (nI (a.1 7)) 0).bind _ = _
  rw [r1, bs]
