/-! how far each set is: the reference -/
def cd_go (a : AV) : Nat → List Nat → Nat
  | s, [] => s
  | s, e :: l => cd_go a (act a (a.1 5) e s) l
def cd_rk (E : Nat) : Nat → List Nat → Nat
  | u, [] => u
  | u, e :: l => cd_rk E (E * u + e + 1) l
theorem cd_rkS (a : AV) : ∀ l u, (∀ e, e ∈ l → e < a.1 8) → cd_S a (cd_rk (a.1 8) u l) = cd_go a (cd_S a u) l := by
  intro l
  induction l with
  | nil => intro u _; rfl
  | cons e l ih =>
    intro u h
    show cd_S a (cd_rk (a.1 8) (a.1 8 * u + e + 1) l) = cd_go a (act a (a.1 5) e (cd_S a u)) l
    rw [ih _ (fun x hx => h x (List.mem_cons_of_mem _ hx)), cd_S2 a (h e List.mem_cons_self)]
theorem cd_anc_le (E n : Nat) : ∀ j, cd_anc E n j ≤ n := by
  intro j
  induction j with
  | zero => exact Nat.le_refl _
  | succ j ih =>
    show (cd_anc E n j - 1) / E ≤ n
    have := Nat.div_le_self (cd_anc E n j - 1) E
    omega
theorem cd_anc_l (E n : Nat) : ∀ j, j ≤ cd_l E n → cd_l E (cd_anc E n j) = cd_l E n - j := by
  intro j
  induction j with
  | zero => intro _; rfl
  | succ j ih =>
    intro h
    have h1 := ih (by omega)
    show cd_l E ((cd_anc E n j - 1) / E) = _
    rcases Nat.eq_zero_or_pos (cd_anc E n j) with c | c
    · rw [c, cd_l0] at h1; omega
    · obtain ⟨m, hm⟩ : ∃ m, cd_anc E n j = m + 1 := ⟨cd_anc E n j - 1, by omega⟩
      rw [hm, cd_l1] at h1
      rw [hm, show m + 1 - 1 = m by omega]
      omega
theorem cd_anc_p {E n j : Nat} (h : j < cd_l E n) : 0 < cd_anc E n j := by
  have h1 := cd_anc_l E n j (by omega)
  rcases Nat.eq_zero_or_pos (cd_anc E n j) with c | c
  · rw [c, cd_l0] at h1; omega
  · exact c
theorem cd_anc_0 (E n : Nat) : cd_anc E n (cd_l E n) = 0 := by
  have h1 := cd_anc_l E n (cd_l E n) (Nat.le_refl _)
  rcases Nat.eq_zero_or_pos (cd_anc E n (cd_l E n)) with c | c
  · exact c
  · obtain ⟨m, hm⟩ : ∃ m, cd_anc E n (cd_l E n) = m + 1 := ⟨cd_anc E n (cd_l E n) - 1, by omega⟩
    rw [hm, cd_l1] at h1
    omega
theorem cd_less {E n : Nat} : ∀ j l u, (∀ e, e ∈ l → e < E) → l.length ≤ j → u < cd_anc E n j → cd_rk E u l < n := by
  intro j
  induction j with
  | zero =>
    intro l u hl hj hu
    cases l with
    | nil => exact hu
    | cons e l => simp at hj
  | succ j ih =>
    intro l u hl hj hu
    cases l with
    | nil => exact Nat.lt_of_lt_of_le hu (cd_anc_le _ _ _)
    | cons e l =>
      have he := hl e List.mem_cons_self
      have hj : l.length + 1 ≤ j + 1 := hj
      refine ih l _ (fun x hx => hl x (List.mem_cons_of_mem _ hx)) (by omega) ?_
      have hu : u < (cd_anc E n j - 1) / E := hu
      rw [Nat.lt_iff_add_one_le, Nat.le_div_iff_mul_le (by omega), Nat.mul_comm, Nat.mul_succ] at hu
      omega
/-- what the row far tells -/
def FI (a : AV) (t : Nat) (F : Nat → Nat) : Prop := F t = 0 ∧ (∀ s, s < 32 → F s = 100000 ∨ F s + 1 ≤ cnt (fun s => decide (F s < 100000)) 32) ∧ (∀ s, s < 32 → F s < 100000 → ∃ l : List Nat, l.length = F s ∧ (∀ e, e ∈ l → e < a.1 8) ∧ cd_go a s l = t)
def cd_m (F : Nat → Nat) : Nat → Nat
  | 0 => 0
  | k + 1 => cd_m F k + min (F k) 32
theorem cd_m_le (F : Nat → Nat) : ∀ n, cd_m F n ≤ 32 * n := by
  intro n
  induction n with
  | zero => exact Nat.le_refl _
  | succ n ih =>
    show cd_m F n + min (F n) 32 ≤ _
    have := Nat.min_le_right (F n) 32
    omega
theorem cd_m_cg {F G : Nat → Nat} : ∀ n, (∀ x, x < n → G x = F x) → cd_m G n = cd_m F n := by
  intro n
  induction n with
  | zero => intro _; rfl
  | succ n ih =>
    intro h
    show cd_m G n + min (G n) 32 = cd_m F n + min (F n) 32
    rw [ih (fun x hx => h x (by omega)), h n (by omega)]
theorem cd_m_lt {F G : Nat → Nat} {z : Nat} (hz : min (G z) 32 < min (F z) 32) (h : ∀ x, x ≠ z → G x = F x) : ∀ n, z < n → cd_m G n < cd_m F n := by
  intro n
  induction n with
  | zero => intro q; omega
  | succ n ih =>
    intro q
    show cd_m G n + min (G n) 32 < cd_m F n + min (F n) 32
    by_cases c : z = n
    · subst c
      rw [cd_m_cg z (fun x hx => h x (by omega))]
      omega
    · have := ih (by omega)
      rw [h n (by omega)]
      omega
/-- one shorter way is written down -/
theorem fi_up {a : AV} {t s y e : Nat} {F : Nat → Nat} (h : FI a t F) (hs : s < 32) (hy : y < 32) (he : e < a.1 8) (ey : act a (a.1 5) e s = y) (c : F y + 1 < F s) : FI a t (updN F s (F y + 1)) ∧ cd_m (updN F s (F y + 1)) 32 < cd_m F 32 := by
  obtain ⟨h1, h2, h3⟩ := h
  have hst : s ≠ t := by intro q; rw [q, h1] at c; omega
  have es : updN F s (F y + 1) s = F y + 1 := if_pos rfl
  have en : ∀ x, x ≠ s → updN F s (F y + 1) x = F x := fun x hx => if_neg hx
  have hFs := h2 s hs
  have hc := cnt_le (fun s => decide (F s < 100000)) 32
  have hFy : F y < 100000 := by rcases hFs with g | g <;> omega
  have hFy2 : F y + 1 ≤ cnt (fun s => decide (F s < 100000)) 32 := by
    rcases h2 y hy with g | g
    · omega
    · exact g
  have hcn : (F s = 100000 ∧ cnt (fun x => decide (updN F s (F y + 1) x < 100000)) 32 = cnt (fun s => decide (F s < 100000)) 32 + 1) ∨ (F s < 100000 ∧ cnt (fun x => decide (updN F s (F y + 1) x < 100000)) 32 = cnt (fun s => decide (F s < 100000)) 32) := by
    by_cases q : F s < 100000
    · right
      refine ⟨q, cnt_cg 32 (fun x _ => ?_)⟩
      by_cases cx : x = s
      · subst cx
        show decide (updN F x (F y + 1) x < 100000) = decide (F x < 100000)
        rw [es, decide_eq_true q, decide_eq_true (show F y + 1 < 100000 by omega)]
      · show decide (updN F s (F y + 1) x < 100000) = _
        rw [en x cx]
    · left
      have q2 : F s = 100000 := by rcases hFs with g | g <;> omega
      refine ⟨q2, cnt_up (z := s) ?_ ?_ (fun x hx => ?_) 32 hs⟩
      · show decide (F s < 100000) = false
        exact decide_eq_false q
      · show decide (updN F s (F y + 1) s < 100000) = true
        rw [es]; exact decide_eq_true (by omega)
      · show decide (updN F s (F y + 1) x < 100000) = _
        rw [en x hx]
  have hc' := cnt_le (fun x => decide (updN F s (F y + 1) x < 100000)) 32
  refine ⟨⟨?_, ?_, ?_⟩, cd_m_lt (z := s) ?_ en 32 hs⟩
  · rw [en t (fun q => hst q.symm)]; exact h1
  · intro x hx
    by_cases cx : x = s
    · rw [cx, es]
      right
      rcases hcn with ⟨g1, g2⟩ | ⟨g1, g2⟩
      · omega
      · rcases hFs with g | g <;> omega
    · rw [en x cx]
      rcases h2 x hx with g | g
      · exact Or.inl g
      · right
        rcases hcn with ⟨g1, g2⟩ | ⟨g1, g2⟩ <;> omega
  · intro x hx hlt
    by_cases cx : x = s
    · subst cx
      obtain ⟨l, l1, l2, l3⟩ := h3 y hy hFy
      refine ⟨e :: l, ?_, fun z hz => ?_, ?_⟩
      · rw [es]; show l.length + 1 = _; omega
      · rcases List.mem_cons.mp hz with g | g
        · rw [g]; exact he
        · exact l2 z g
      · show cd_go a (act a (a.1 5) e x) l = t
        rw [ey]; exact l3
    · rw [en x cx] at hlt ⊢
      exact h3 x hx hlt
  · rw [es]
    rcases hcn with ⟨g1, g2⟩ | ⟨g1, g2⟩
    · omega
    · rcases hFs with g | g <;> omega
def FR (vm : US) (F : Nat → Nat) : Prop := ∀ s, s < 32 → vm.2.2 15 s = nI (F s)
def FrF (vm vm' : US) : Prop := (∀ k, k < 8 ∨ 11 < k → vm'.1 k = vm.1 k) ∧ vm'.2.1 = vm.2.1 ∧ ∀ s, s ≠ 15 → vm'.2.2 s = vm.2.2 s
theorem FrF.rf (vm : US) : FrF vm vm := ⟨fun _ _ => rfl, rfl, fun _ _ => rfl⟩
theorem FrF.tr {x y z : US} (h : FrF x y) (g : FrF y z) : FrF x z := ⟨fun k hk => (g.1 k hk).trans (h.1 k hk), g.2.1.trans h.2.1, fun s hs => (g.2.2 s hs).trans (h.2.2 s hs)⟩
theorem FrF.sc {x y : US} (h : FrF x y) : ScrM x y := ⟨h.2.1, h.1 17 (by omega), h.2.2 1 (by decide), h.2.2 2 (by decide), h.2.2 3 (by decide), h.2.2 16 (by decide)⟩
theorem FrF.tk {x y : US} (h : FrF x y) {a : AV} {wh : Nat} (t : Taken x a wh) : Taken y a wh := ⟨(h.1 7 (by omega)).trans t.1, by rw [h.2.2 6 (by decide)]; exact t.2⟩
theorem FrM.ff {x y : US} (h : FrM x y) : FrF x y := ⟨h.2, by rw [h.1], fun s _ => by rw [h.1]⟩
theorem fi_F {a : AV} {t s : Nat} {F : Nat → Nat} (h : FI a t F) (hs : s < 32) : F s ≤ 100000 := by
  have hc := cnt_le (fun s => decide (F s < 100000)) 32
  rcases h.2.1 s hs with g | g <;> omega
theorem ff_i {N : Nat} (hN : 200000 ≤ N) {g33 : US → (Nat → Int32) → Int32 → Option US} {g41 : US → (Nat → Int32) → Int32 → Int32 → Option US} {w : Nat → Int32} {a : AV} (hv : Valid a) (hm : RM w a) {t s : Nat} (hs : s < 2 ^ a.1 0) : ∀ d e k vm F b, e + d = a.1 8 → d < k → Taken vm a (a.1 5) → FR vm F → FI a t F → ∃ vm' F' b', f_X12_findFar_52 N g33 g41 k vm w (nI b) (nI s) (nI e) = g41 vm' w (nI b') (nI (s + 1)) ∧ FR vm' F' ∧ FI a t F' ∧ FrF vm vm' ∧ ((b' = b ∧ F' = F ∧ ∀ x, e ≤ x → x < a.1 8 → F s ≤ F (act a (a.1 5) x s) + 1) ∨ (b' = 1 ∧ cd_m F' 32 < cd_m F 32)) := by
  have h8 := hv.2.2.2.2.1
  have hw := lt32 hv.1 hv.2.1
  have hs32 := lt32 hv.1 hs
  intro d
  induction d with
  | zero =>
    intro e k vm F b he hk ht hR hF
    obtain ⟨k, rfl⟩ : ∃ j, k = j + 1 := ⟨k - 1, by omega⟩
    have : e = a.1 8 := by omega
    subst this
    refine ⟨vm, F, b, ?_, hR, hF, FrF.rf _, Or.inl ⟨rfl, rfl, fun x h1 h2 => by omega⟩⟩
    show b_X12_findFar_52 N g33 g41 _ _ _ _ _ _ = _
    unfold b_X12_findFar_52
    rw [m_errands, bs, hm.2.2.2.1, if_pos (nI_le (Nat.le_refl _) (by omega)), nI_1]
  | succ d ih =>
    intro e k vm F b he hk ht hR hF
    obtain ⟨k, rfl⟩ : ∃ j, k = j + 1 := ⟨k - 1, by omega⟩
    have hea : e < a.1 8 := by omega
    obtain ⟨vm1, d1, d2⟩ := de_m hN hv hm hw ht (e := e) hea hs32
    have hz := lt32 hv.1 (act_lt a (a.1 5) e s)
    have hR1 : FR vm1 F := by
      intro x hx
      rw [d2.1]; exact hR x hx
    have l1 := fi_F hF hz
    have l2 := fi_F hF hs32
    show ∃ vm' F' b', b_X12_findFar_52 N g33 g41 _ _ _ _ _ _ = _ ∧ _
    unfold b_X12_findFar_52
    rw [m_errands, bs, hm.2.2.2.1, if_neg (nI_nle2 (a := a.1 8) hea (by omega)), d1, bs]
    show ∃ vm' F' b', (if nI (act a (a.1 5) e s) < 0 ∨ 32 ≤ (nI (act a (a.1 5) e s)).toNatClampNeg then none else _) = _ ∧ _
    rw [ck_in hz (by decide), ck_in hs32 (by decide)]
    show ∃ vm' F' b', (if vm1.2.2 15 (nI s).toNatClampNeg ≤ vm1.2.2 15 (nI (act a (a.1 5) e s)).toNatClampNeg + 1 then _ else _) = _ ∧ _
    rw [ck_in hs32 (by decide), nI_clamp (n := s) (by omega), nI_clamp (n := act a (a.1 5) e s) (by omega), hR1 s hs32, hR1 _ hz, nI_1, nI_1]
    by_cases c : F s ≤ F (act a (a.1 5) e s) + 1
    · rw [if_pos (nI_le c (by omega))]
      obtain ⟨vm', F', b', r1, r2, r3, r4, r5⟩ := ih (e + 1) k vm1 F b (by omega) (by omega) (d2.tk ht) hR1 hF
      refine ⟨vm', F', b', r1, r2, r3, d2.ff.tr r4, ?_⟩
      rcases r5 with ⟨q1, q2, q3⟩ | q
      · refine Or.inl ⟨q1, q2, fun x h1 h2 => ?_⟩
        by_cases cx : x = e
        · rw [cx]; exact c
        · exact q3 x (by omega) h2
      · exact Or.inr q
    · rw [if_neg (nI_nle2 (a := F s) (by omega) (by omega))]
      obtain ⟨u1, u2⟩ := fi_up hF hs32 hz hea rfl (by omega)
      obtain ⟨vm', F', b', r1, r2, r3, r4, r5⟩ := ih (e + 1) k (upa vm1 15 s (nI (F (act a (a.1 5) e s) + 1))) (updN F s (F (act a (a.1 5) e s) + 1)) 1 (by omega) (by omega) (d2.tk ht) (fun x hx => by
        show upd (vm1.2.2 15) s _ x = nI (updN F s _ x)
        by_cases cx : x = s
        · rw [cx, pk_us, show updN F s (F (act a (a.1 5) e s) + 1) s = F (act a (a.1 5) e s) + 1 from if_pos rfl]
        · rw [pk_un cx, show updN F s (F (act a (a.1 5) e s) + 1) x = F x from if_neg cx]; exact hR1 x hx) u1
      refine ⟨vm', F', b', r1, r2, r3, d2.ff.tr (FrF.tr (y := upa vm1 15 s (nI (F (act a (a.1 5) e s) + 1))) ⟨fun _ _ => rfl, rfl, fun z hz => if_neg hz⟩ r4), Or.inr ?_⟩
      rcases r5 with ⟨q1, q2, q3⟩ | ⟨q1, q2⟩
      · rw [q2]; exact ⟨q1, u2⟩
      · exact ⟨q1, by omega⟩
theorem ff_s {N : Nat} (hN : 200000 ≤ N) {g33 : US → (Nat → Int32) → Int32 → Option US} {w : Nat → Int32} {a : AV} (hv : Valid a) (hm : RM w a) {t : Nat} : ∀ d s k vm F b, s + d = 2 ^ a.1 0 → d < k → Taken vm a (a.1 5) → FR vm F → FI a t F → ∃ vm' F' b', f_X12_findFar_41 N g33 k vm w (nI b) (nI s) = g33 vm' w (nI b') ∧ FR vm' F' ∧ FI a t F' ∧ FrF vm vm' ∧ ((b' = b ∧ F' = F ∧ ∀ x, s ≤ x → x < 2 ^ a.1 0 → ∀ e, e < a.1 8 → F x ≤ F (act a (a.1 5) e x) + 1) ∨ (b' = 1 ∧ cd_m F' 32 < cd_m F 32)) := by
  have h5 := hv.1
  have h8 := hv.2.2.2.2.1
  have hp := pow5 h5
  intro d
  induction d with
  | zero =>
    intro s k vm F b he hk ht hR hF
    obtain ⟨k, rfl⟩ : ∃ j, k = j + 1 := ⟨k - 1, by omega⟩
    have : s = 2 ^ a.1 0 := by omega
    subst this
    refine ⟨vm, F, b, ?_, hR, hF, FrF.rf _, Or.inl ⟨rfl, rfl, fun x h1 h2 => by omega⟩⟩
    show b_X12_findFar_41 N _ _ _ _ _ _ = _
    unfold b_X12_findFar_41 f_X12_all
    rw [m_things, bs, bs, hm.1, alls h5, if_pos (nI_lt (by omega) (by omega))]
  | succ d ih =>
    intro s k vm F b he hk ht hR hF
    obtain ⟨k, rfl⟩ : ∃ j, k = j + 1 := ⟨k - 1, by omega⟩
    obtain ⟨vm1, F1, b1, r1, r2, r3, r4, r5⟩ := ff_i hN (g33 := g33) (g41 := f_X12_findFar_41 N g33 k) hv hm (t := t) (s := s) (by omega) (a.1 8) 0 N vm F b (by omega) (by omega) ht hR hF
    have r1 : f_X12_findFar_52 N g33 (f_X12_findFar_41 N g33 k) N vm w (nI b) (nI s) 0 = _ := r1
    obtain ⟨vm2, F2, b2, s1, s2, s3, s4, s5⟩ := ih (s + 1) k vm1 F1 b1 (by omega) (by omega) (r4.tk ht) r2 r3
    refine ⟨vm2, F2, b2, ?_, s2, s3, r4.tr s4, ?_⟩
    · show b_X12_findFar_41 N _ _ _ _ _ _ = _
      unfold b_X12_findFar_41 f_X12_all
      rw [m_things, bs, bs, hm.1, alls h5, if_neg (nI_nlt (by omega) (by omega)), r1, s1]
    · rcases r5 with ⟨q1, q2, q3⟩ | ⟨q1, q2⟩
      · rcases s5 with ⟨p1, p2, p3⟩ | ⟨p1, p2⟩
        · refine Or.inl ⟨p1.trans q1, p2.trans q2, fun x h1 h2 e he2 => ?_⟩
          by_cases cx : x = s
          · rw [cx]; exact q3 e (Nat.zero_le _) he2
          · rw [q2] at p3; exact p3 x (by omega) h2 e he2
        · rw [q2] at p2; exact Or.inr ⟨p1, p2⟩
      · right
        rcases s5 with ⟨p1, p2, p3⟩ | ⟨p1, p2⟩
        · rw [p2]; exact ⟨p1.trans q1, q2⟩
        · exact ⟨p1, by omega⟩
theorem ff_w {N : Nat} (hN : 200000 ≤ N) {w : Nat → Int32} {a : AV} (hv : Valid a) (hm : RM w a) {t : Nat} : ∀ m k vm F, cd_m F 32 < m → m < k → Taken vm a (a.1 5) → FR vm F → FI a t F → ∃ vm' F', f_X12_findFar_33 N k vm w 1 = some vm' ∧ FR vm' F' ∧ FI a t F' ∧ FrF vm vm' ∧ ∀ x, x < 2 ^ a.1 0 → ∀ e, e < a.1 8 → F' x ≤ F' (act a (a.1 5) e x) + 1 := by
  have hp := pow5 hv.1
  intro m
  induction m with
  | zero => intro k vm F h; omega
  | succ m ih =>
    intro k vm F hc hk ht hR hF
    obtain ⟨k, rfl⟩ : ∃ j, k = j + 1 := ⟨k - 1, by omega⟩
    obtain ⟨vm1, F1, b1, r1, r2, r3, r4, r5⟩ := ff_s hN (g33 := f_X12_findFar_33 N k) hv hm (t := t) (2 ^ a.1 0) 0 N vm F 0 (by omega) (by omega) ht hR hF
    have r1 : f_X12_findFar_41 N (f_X12_findFar_33 N k) N vm w 0 0 = _ := r1
    show ∃ vm' F', b_X12_findFar_33 N _ _ _ _ = _ ∧ _
    unfold b_X12_findFar_33
    rw [if_neg (by decide), r1]
    rcases r5 with ⟨q1, q2, q3⟩ | ⟨q1, q2⟩
    · subst q1
      subst q2
      refine ⟨vm1, F1, ?_, r2, r3, r4, fun x hx e he => q3 x (Nat.zero_le _) hx e he⟩
      obtain ⟨k, rfl⟩ : ∃ j, k = j + 1 := ⟨k - 1, by omega⟩
      show b_X12_findFar_33 N _ _ _ _ = _
      unfold b_X12_findFar_33
      rw [if_pos (show nI 0 = 0 from rfl)]
    · subst q1
      obtain ⟨vm2, F2, s1, s2, s3, s4, s5⟩ := ih k vm1 F1 (by omega) (by omega) (r4.tk ht) r2 r3
      exact ⟨vm2, F2, s1, s2, s3, r4.tr s4, s5⟩
theorem ff_0 {N : Nat} (hN : 200000 ≤ N) {w : Nat → Int32} {a : AV} (hv : Valid a) (hm : RM w a) {t : Nat} (htt : t < 32) : ∀ d i k vm, i + d = 32 → d < k → Taken vm a (a.1 5) → (∀ s, s < i → vm.2.2 15 s = nI (if s = t then 0 else 100000)) → ∃ vm' F', f_X12_findFar_2 N k vm w (nI t) (nI i) = some vm' ∧ FR vm' F' ∧ FI a t F' ∧ FrF vm vm' ∧ ∀ x, x < 2 ^ a.1 0 → ∀ e, e < a.1 8 → F' x ≤ F' (act a (a.1 5) e x) + 1 := by
  intro d
  induction d with
  | zero =>
    intro i k vm hi hk ht h1
    obtain ⟨k, rfl⟩ : ∃ j, k = j + 1 := ⟨k - 1, by omega⟩
    have : i = 32 := by omega
    subst this
    show ∃ vm' F', b_X12_findFar_2 N _ _ _ _ _ = _ ∧ _
    unfold b_X12_findFar_2
    rw [if_pos (by decide)]
    have hml := cd_m_le (fun s => if s = t then 0 else 100000) 32
    refine ff_w hN hv hm (t := t) 1025 N vm (fun s => if s = t then 0 else 100000) (by omega) (by omega) ht h1 ⟨if_pos rfl, fun s hs => ?_, fun s hs h => ?_⟩
    · by_cases c : s = t
      · right
        have e1 := cnt_up (f := fun _ => false) (g := fun s => decide ((if s = t then 0 else 100000) < 100000)) (z := t) rfl (by rw [if_pos rfl]; rfl) (fun x hx => by rw [if_neg hx]; rfl) 32 htt
        rw [e1]
        show (if s = t then 0 else 100000) + 1 ≤ _
        rw [if_pos c]
        omega
      · exact Or.inl (if_neg c)
    · by_cases c : s = t
      · refine ⟨[], ?_, fun e he => by simp at he, c⟩
        show 0 = if s = t then 0 else 100000
        rw [if_pos c]
      · have h : (if s = t then 0 else 100000) < 100000 := h
        rw [if_neg c] at h
        omega
  | succ d ih =>
    intro i k vm hi hk ht h1
    obtain ⟨k, rfl⟩ : ∃ j, k = j + 1 := ⟨k - 1, by omega⟩
    show ∃ vm' F', b_X12_findFar_2 N _ _ _ _ _ = _ ∧ _
    unfold b_X12_findFar_2
    rw [if_neg (show ¬ (32 : Int32) ≤ nI i from nI_nle2 (a := 32) (by omega) (by decide)), ck_in (by omega) (by decide), ck_in (by omega) (by decide), nI_clamp (by omega), nI_1]
    have st : ∀ x : Int32, x = nI (if i = t then 0 else 100000) → ∃ vm' F', f_X12_findFar_2 N k (upa vm 15 i x) w (nI t) (nI (i + 1)) = some vm' ∧ FR vm' F' ∧ FI a t F' ∧ FrF vm vm' ∧ ∀ x, x < 2 ^ a.1 0 → ∀ e, e < a.1 8 → F' x ≤ F' (act a (a.1 5) e x) + 1 := by
      intro x hx
      obtain ⟨vm', F', r1, r2, r3, r4, r5⟩ := ih (i + 1) k (upa vm 15 i x) (by omega) (by omega) ht (fun s hs => by
        show upd (vm.2.2 15) i x s = _
        by_cases c : s = i
        · rw [c, pk_us, hx]
        · rw [pk_un c]; exact h1 s (by omega))
      exact ⟨vm', F', r1, r2, r3, FrF.tr (y := upa vm 15 i x) ⟨fun _ _ => rfl, rfl, fun z hz => if_neg hz⟩ r4, r5⟩
    by_cases c : i = t
    · rw [if_pos (by rw [c])]
      exact st 0 (by rw [if_pos c]; rfl)
    · rw [if_neg (fun h => c ((nI_eq (by omega) (by omega)).mp h))]
      exact st 100000 (by rw [if_neg c]; rfl)
/-- the way of the reference is the first word -/
theorem far_j {a : AV} (hv : Valid a) {t n : Nat} {F : Nat → Nat} (hF : FI a t F) (hfx : ∀ x, x < 2 ^ a.1 0 → ∀ e, e < a.1 8 → F x ≤ F (act a (a.1 5) e x) + 1) (hn : cd_S a n = t) (hf : cd_f a n) (hl : cd_l (a.1 8) n < 100000) : ∀ j, j ≤ cd_l (a.1 8) n → F (cd_S a (cd_anc (a.1 8) n j)) = j := by
  have up : ∀ j, j ≤ cd_l (a.1 8) n → F (cd_S a (cd_anc (a.1 8) n j)) ≤ j := by
    intro j
    induction j with
    | zero => intro _; show F (cd_S a n) ≤ 0; rw [hn, hF.1]; exact Nat.le_refl _
    | succ j ih =>
      intro hj
      have h1 := ih (by omega)
      have hp := cd_anc_p (E := a.1 8) (n := n) (j := j) (by omega)
      obtain ⟨m, hm⟩ : ∃ m, cd_anc (a.1 8) n j = m + 1 := ⟨cd_anc (a.1 8) n j - 1, by omega⟩
      have h0 : 0 < a.1 8 := by
        rcases Nat.eq_zero_or_pos (a.1 8) with e | e
        · have := cd_f0 e hf
          rw [this, cd_l0] at hj; omega
        · exact e
      rw [hm, cd_S1] at h1
      unfold cd_A at h1
      rw [if_pos (Nat.mod_lt _ h0)] at h1
      show F (cd_S a ((cd_anc (a.1 8) n j - 1) / a.1 8)) ≤ _
      rw [hm, show m + 1 - 1 = m by omega]
      have := hfx (cd_S a (m / a.1 8)) (cd_S_lt hv _) (m % a.1 8) (Nat.mod_lt _ h0)
      omega
  intro j hj
  have h1 := up j hj
  rcases Nat.lt_or_ge (F (cd_S a (cd_anc (a.1 8) n j))) j with g | g
  · exfalso
    obtain ⟨l, l1, l2, l3⟩ := hF.2.2 (cd_S a (cd_anc (a.1 8) n j)) (lt32 hv.1 (cd_S_lt hv _)) (by omega)
    obtain ⟨i, rfl⟩ : ∃ i, j = i + 1 := ⟨j - 1, by omega⟩
    have hp := cd_anc_p (E := a.1 8) (n := n) (j := i) (by omega)
    have hlt : cd_anc (a.1 8) n (i + 1) < cd_anc (a.1 8) n i := by
      show (cd_anc (a.1 8) n i - 1) / a.1 8 < _
      have := Nat.div_le_self (cd_anc (a.1 8) n i - 1) (a.1 8)
      omega
    have := cd_less (E := a.1 8) (n := n) i l (cd_anc (a.1 8) n (i + 1)) l2 (by omega) hlt
    apply hf _ this
    rw [cd_rkS a l _ l2, l3, hn]
  · omega
theorem co_e {N : Nat} (hN : 200000 ≤ N) {g : US → (Nat → Int32) → Int32 → Int32 → Int32 → Int32 → Option (Int32 × US)} {w : Nat → Int32} {a : AV} (hv : Valid a) (hm : RM w a) {t n j : Nat} {F : Nat → Nat} (hF : FI a t F) (hfx : ∀ x, x < 2 ^ a.1 0 → ∀ e, e < a.1 8 → F x ≤ F (act a (a.1 5) e x) + 1) (hn : cd_S a n = t) (hf : cd_f a n) (hl : cd_l (a.1 8) n < 100000) (hj : j < cd_l (a.1 8) n) {y2 y6 : Int32} : ∀ d e k vm, e + d = (cd_anc (a.1 8) n j - 1) % a.1 8 → d < k → Taken vm a (a.1 5) → FR vm F → ∃ vm', f_X12_code_86 N g k vm w y2 (nI (cd_S a (cd_anc (a.1 8) n (j + 1)))) (nI e) y6 = g vm' w y2 (nI (cd_S a (cd_anc (a.1 8) n j))) (nI ((cd_anc (a.1 8) n j - 1) % a.1 8)) (y6 + 1) ∧ FrM vm vm' := by
  have h8 := hv.2.2.2.2.1
  have hw := lt32 hv.1 hv.2.1
  have h0 : 0 < a.1 8 := by
    rcases Nat.eq_zero_or_pos (a.1 8) with e | e
    · have := cd_f0 e hf
      rw [this, cd_l0] at hj; omega
    · exact e
  have hp := cd_anc_p (E := a.1 8) (n := n) (j := j) hj
  obtain ⟨m, hm2⟩ : ∃ m, cd_anc (a.1 8) n j = m + 1 := ⟨cd_anc (a.1 8) n j - 1, by omega⟩
  have e1 : cd_anc (a.1 8) n (j + 1) = m / a.1 8 := by
    show (cd_anc (a.1 8) n j - 1) / a.1 8 = _
    rw [hm2, show m + 1 - 1 = m by omega]
  have hmm := Nat.mod_lt m h0
  have e2 : cd_S a (cd_anc (a.1 8) n j) = act a (a.1 5) (m % a.1 8) (cd_S a (m / a.1 8)) := by
    rw [hm2, cd_S1]
    unfold cd_A
    rw [if_pos hmm]
  have f1 := far_j hv hF hfx hn hf hl j (by omega)
  have f2 := far_j hv hF hfx hn hf hl (j + 1) (by omega)
  have hanc : m + 1 ≤ n := by rw [← hm2]; exact cd_anc_le _ _ _
  rw [e1] at f2
  rw [e2] at f1
  rw [e1, e2, hm2, show m + 1 - 1 = m by omega]
  have hS := lt32 hv.1 (cd_S_lt hv (m / a.1 8))
  have hc := cnt_le (fun s => decide (F s < 100000)) 32
  intro d
  induction d with
  | zero =>
    intro e k vm he hk ht hR
    obtain ⟨k, rfl⟩ : ∃ j, k = j + 1 := ⟨k - 1, by omega⟩
    have : e = m % a.1 8 := by omega
    subst this
    obtain ⟨vm1, d1, d2⟩ := de_m hN hv hm hw ht (e := m % a.1 8) hmm hS
    obtain ⟨vm2, d3, d4⟩ := de_m hN hv hm hw (d2.tk ht) (e := m % a.1 8) hmm hS
    have hz := lt32 hv.1 (act_lt a (a.1 5) (m % a.1 8) (cd_S a (m / a.1 8)))
    refine ⟨vm2, ?_, d2.tr d4⟩
    show b_X12_code_86 N _ _ _ _ _ _ _ _ = _
    unfold b_X12_code_86
    rw [d1, bs]
    show (if nI (act a (a.1 5) (m % a.1 8) (cd_S a (m / a.1 8))) < 0 ∨ 32 ≤ (nI (act a (a.1 5) (m % a.1 8) (cd_S a (m / a.1 8)))).toNatClampNeg then none else (if nI (cd_S a (m / a.1 8)) < 0 ∨ 32 ≤ (nI (cd_S a (m / a.1 8))).toNatClampNeg then none else (if vm1.2.2 15 (nI (act a (a.1 5) (m % a.1 8) (cd_S a (m / a.1 8)))).toNatClampNeg = vm1.2.2 15 (nI (cd_S a (m / a.1 8))).toNatClampNeg - 1 then _ else _))) = _
    rw [ck_in hz (by decide), ck_in hS (by decide), nI_clamp (by omega), nI_clamp (n := cd_S a (m / a.1 8)) (by omega), d2.1, hR _ hz, hR _ hS, f1, f2, nI_pred, if_pos rfl, d3, bs]
  | succ d ih =>
    intro e k vm he hk ht hR
    obtain ⟨k, rfl⟩ : ∃ j, k = j + 1 := ⟨k - 1, by omega⟩
    have hea : e < a.1 8 := by omega
    obtain ⟨vm1, d1, d2⟩ := de_m hN hv hm hw ht (e := e) hea hS
    have hz := lt32 hv.1 (act_lt a (a.1 5) e (cd_S a (m / a.1 8)))
    have l1 := fi_F hF hz
    obtain ⟨vm', r1, r2⟩ := ih (e + 1) k vm1 (by omega) (by omega) (d2.tk ht) (fun x hx => by rw [d2.1]; exact hR x hx)
    refine ⟨vm', ?_, d2.tr r2⟩
    show b_X12_code_86 N _ _ _ _ _ _ _ _ = _
    unfold b_X12_code_86
    rw [d1, bs]
    show (if nI (act a (a.1 5) e (cd_S a (m / a.1 8))) < 0 ∨ 32 ≤ (nI (act a (a.1 5) e (cd_S a (m / a.1 8)))).toNatClampNeg then none else (if nI (cd_S a (m / a.1 8)) < 0 ∨ 32 ≤ (nI (cd_S a (m / a.1 8))).toNatClampNeg then none else (if vm1.2.2 15 (nI (act a (a.1 5) e (cd_S a (m / a.1 8)))).toNatClampNeg = vm1.2.2 15 (nI (cd_S a (m / a.1 8))).toNatClampNeg - 1 then _ else _))) = _
    rw [ck_in hz (by decide), ck_in hS (by decide), nI_clamp (by omega), nI_clamp (n := cd_S a (m / a.1 8)) (by omega), d2.1, hR _ hz, hR _ hS, f2, nI_pred, if_neg, nI_1]
    · exact r1
    · intro q
      have q := (nI_eq (by omega) (by omega)).mp q
      obtain ⟨l, p1, p2, p3⟩ := hF.2.2 _ hz (by omega)
      have hlt : a.1 8 * (m / a.1 8) + e + 1 < cd_anc (a.1 8) n j := by
        have := Nat.div_add_mod m (a.1 8)
        omega
      have := cd_less (E := a.1 8) (n := n) j l (a.1 8 * (m / a.1 8) + e + 1) p2 (by omega) hlt
      apply hf _ this
      rw [cd_rkS a l _ p2, cd_S2 a hea, p3, hn]
theorem co_k {N : Nat} (hN : 200000 ≤ N) {w : Nat → Int32} {a : AV} (hv : Valid a) (hm : RM w a) {t n i : Nat} {F : Nat → Nat} (hF : FI a t F) (hfx : ∀ x, x < 2 ^ a.1 0 → ∀ e, e < a.1 8 → F x ≤ F (act a (a.1 5) e x) + 1) (hn : cd_S a n = t) (hf : cd_f a n) (hl : cd_l (a.1 8) n < 100000) (hi : i < cd_l (a.1 8) n) : ∀ d c k vm y5, c + d = i + 1 → d < k → Taken vm a (a.1 5) → FR vm F → (d = 0 → y5 = nI ((cd_anc (a.1 8) n (cd_l (a.1 8) n - 1 - i) - 1) % a.1 8)) → ∃ vm', f_X12_code_77 N k vm w (nI i) (nI (cd_S a (cd_anc (a.1 8) n (cd_l (a.1 8) n - c)))) y5 (nI c) = some (nI ((cd_anc (a.1 8) n (cd_l (a.1 8) n - 1 - i) - 1) % a.1 8), vm') ∧ FrM vm vm' := by
  have h8 := hv.2.2.2.2.1
  intro d
  induction d with
  | zero =>
    intro c k vm y5 hc hk ht hR hy
    obtain ⟨k, rfl⟩ : ∃ j, k = j + 1 := ⟨k - 1, by omega⟩
    refine ⟨vm, ?_, FrM.rf _⟩
    show b_X12_code_77 N _ _ _ _ _ _ _ = _
    unfold b_X12_code_77
    rw [if_pos (nI_lt (by omega) (by omega)), hy rfl]
  | succ d ih =>
    intro c k vm y5 hc hk ht hR hy
    obtain ⟨k, rfl⟩ : ∃ j, k = j + 1 := ⟨k - 1, by omega⟩
    have ej : cd_l (a.1 8) n - c = (cd_l (a.1 8) n - (c + 1)) + 1 := by omega
    have h0 : 0 < a.1 8 := by
      rcases Nat.eq_zero_or_pos (a.1 8) with e | e
      · have := cd_f0 e hf
        rw [this, cd_l0] at hi; omega
      · exact e
    have hmm := Nat.mod_lt (cd_anc (a.1 8) n (cd_l (a.1 8) n - (c + 1)) - 1) h0
    obtain ⟨vm1, r1, r2⟩ := co_e hN (g := f_X12_code_77 N k) hv hm hF hfx hn hf hl (j := cd_l (a.1 8) n - (c + 1)) (by omega) (y2 := nI i) (y6 := nI c) ((cd_anc (a.1 8) n (cd_l (a.1 8) n - (c + 1)) - 1) % a.1 8) 0 N vm (by omega) (by omega) ht hR
    rw [← ej] at r1
    have r1 : f_X12_code_86 N (f_X12_code_77 N k) N vm w (nI i) (nI (cd_S a (cd_anc (a.1 8) n (cd_l (a.1 8) n - c)))) 0 (nI c) = _ := r1
    obtain ⟨vm2, s1, s2⟩ := ih (c + 1) k vm1 (nI ((cd_anc (a.1 8) n (cd_l (a.1 8) n - (c + 1)) - 1) % a.1 8)) (by omega) (by omega) (r2.tk ht) (fun x hx => by rw [r2.1]; exact hR x hx) (fun h => by
      rw [show cd_l (a.1 8) n - (c + 1) = cd_l (a.1 8) n - 1 - i by omega])
    refine ⟨vm2, ?_, r2.tr s2⟩
    show b_X12_code_77 N _ _ _ _ _ _ _ = _
    unfold b_X12_code_77
    rw [if_neg (nI_nlt (by omega) (by omega)), r1, nI_1]
    exact s1
theorem sim_code {N : Nat} (hN : 200000 ≤ N) {vob vn : US} {tx : Nat → Int32} {i0 i1 : Option US} {vm : US} {w : Nat → Int32} (hI : Inv vob vn tx i0 i1 vm w) (vd : US) (vds : US) (k0 : Int32) (k1 : Int32) : ∃ rx rm, f_X11_code N vob vd vds vn k0 k1 = some rx ∧ f_X12_code N vm w k0 k1 = some rm ∧ rx.1 = rm.1 ∧ Inv rx.2.1 vn tx i0 i1 rm.2 w := by
  obtain ⟨a, hv, hx, hm⟩ := hI.1
  have h5 := hv.1
  have h8 := hv.2.2.2.2.1
  have hbad : ∃ rx rm, b_X11_code_16 N vob vd vds vn = some rx ∧ b_X12_code_13 N vm w = some rm ∧ rx.1 = rm.1 ∧ Inv rx.2.1 vn tx i0 i1 rm.2 w := by
    refine ⟨_, _, rfl, rfl, ?_, ?_⟩
    · rfl
    · exact hI.bad
  unfold f_X11_code f_X12_code
  rw [hs_m (hx.1.trans hm.1.symm)]
  rcases hs_x h5 hx.1 k0 with ⟨g, z, hz, rfl⟩ | g
  · simp only [g, bs, ift]
    by_cases c : -1 ≤ k1
    · rw [if_pos c, if_pos c]
      have hz32 := lt32 h5 hz
      have ho := lt32 h5 hv.2.2.2.1
      obtain ⟨vd1, sw1, q, K, T, x1, x2, x3⟩ := fcs_x hN hv hx vd vds
      have hK := bq_K x2
      obtain ⟨vm1, t1, t2, t3⟩ := tk_m hN (vm := vm) hv hm
      obtain ⟨vm2, F, r1, r2, r3, r4, r5⟩ := ff_0 hN hv hm (t := z) hz32 32 0 N vm1 (by omega) (by omega) t2 (fun s hs => absurd hs (Nat.not_lt_zero s))
      have r1 : f_X12_findFar N vm1 w (nI z) = some vm2 := r1
      have hs : ScrM vm vm2 := t3.tr r4.sc
      rw [x1, bs, t1, bs, r1, bs, ck_in hz32 (by decide), nI_clamp (by omega), if_neg (show ¬ ((27 : Int32) < 0 ∨ 63 ≤ (27 : Int32).toNatClampNeg) by decide), show (27 : Int32).toNatClampNeg = 27 from by decide, hm.2.2.1, ck_in ho (by decide), nI_clamp (by omega), r2 _ ho]
      by_cases ce : ∃ n, cd_S a n = z
      · obtain ⟨n0, hn0⟩ := ce
        obtain ⟨n, -, n2, n3⟩ := cd_rep a n0
        have n2 := n2.trans hn0
        obtain ⟨i, j1, j2⟩ := x3 n n3
        have b1 := x2.1 i j1
        rw [j2, n2] at b1
        have hl : cd_l (a.1 8) n < 32 := by have := b1.2.2.1; omega
        have fo := far_j hv r3 r5 n2 n3 (by omega) (cd_l (a.1 8) n) (Nat.le_refl _)
        rw [cd_anc_0, cd_S0] at fo
        rw [b1.2.2.2.2.1, fo, if_pos (show nI (cd_l (a.1 8) n) < 100000 from nI_lt (b := 100000) (by omega) (by decide)), if_neg (nI_nm1 (by omega))]
        by_cases c1 : k1 = -1
        · rw [if_pos c1, if_pos c1]
          exact ⟨_, _, rfl, rfl, rfl, hI.scr hs⟩
        · rw [if_neg c1, if_neg c1]
          have c0 : ¬ k1 < 0 := by
            intro h
            apply c1
            rw [← Int32.toInt_inj]
            rw [Int32.lt_iff_toInt_lt] at h
            rw [Int32.le_iff_toInt_le] at c
            rw [show (-1 : Int32).toInt = -1 from by decide] at c ⊢
            rw [show (0 : Int32).toInt = 0 from by decide] at h
            omega
          obtain ⟨j, hj, rfl⟩ := nI_of c0
          by_cases c2 : j < cd_l (a.1 8) n
          · rw [if_pos (nI_lt c2 (by omega)), if_pos (nI_lt c2 (by omega))]
            obtain ⟨vm3, s1, s2⟩ := co_k hN hv hm r3 r5 n2 n3 (by omega) (i := j) c2 (j + 1) 0 N vm2 0 (by omega) (by omega) (r4.tk t2) r2 (fun h => by omega)
            rw [Nat.sub_zero, cd_anc_0, cd_S0] at s1
            have s1 : f_X12_code_77 N N vm2 w (nI j) (nI (a.1 7)) 0 0 = _ := s1
            have u1 := st_x (N := N) hv x2 x3 (i := j) (cd_l (a.1 8) n - 1 - j) n N n3 (by omega) (by omega)
            rw [n2, show j + (cd_l (a.1 8) n - 1 - j) = cd_l (a.1 8) n - 1 by omega] at u1
            have u2 : f_X0_stepTo N vd1 (nI z) (nI j) = some (nI ((cd_anc (a.1 8) n (cd_l (a.1 8) n - 1 - j) - 1) % a.1 8)) := by
              unfold f_X0_stepTo
              rw [ck_in hz32 (by decide), nI_clamp (by omega), b1.2.2.2.2.1, show nI (cd_l (a.1 8) n) - 1 = nI (cd_l (a.1 8) n - 1) from pk_sub (a := cd_l (a.1 8) n) (b := 1) (by omega)]
              exact u1
            rw [s1, u2, bs]
            exact ⟨_, _, rfl, rfl, rfl, hI.scr (hs.tr s2.sc)⟩
          · rw [if_neg (nI_nlt (by omega) (by omega)), if_neg (nI_nlt (by omega) (by omega))]
            refine ⟨_, _, rfl, rfl, ?_, hI.scr hs⟩
            rfl
      · have e1 : vd1.2.2 8 z = -1 := x2.2.2.1 z hz32 (fun i hi e => ce ⟨_, e⟩)
        have e2 : F (a.1 7) = 100000 := by
          rcases Nat.lt_or_ge (F (a.1 7)) 100000 with q | q
          · obtain ⟨l, l1, l2, l3⟩ := r3.2.2 _ ho q
            exfalso
            apply ce
            refine ⟨cd_rk (a.1 8) 0 l, ?_⟩
            rw [cd_rkS a l 0 l2, cd_S0, l3]
          · have := fi_F r3 ho; omega
        rw [e1, e2, if_pos rfl, if_neg (show ¬ nI 100000 < 100000 by decide)]
        by_cases c1 : k1 = -1
        · rw [if_pos c1]
          exact ⟨_, _, rfl, rfl, rfl, hI.scr hs⟩
        · rw [if_neg c1]
          exact ⟨_, _, rfl, rfl, rfl, hI.scr hs⟩
    · rw [if_neg c, if_neg c]
      exact hbad
  · simp only [g, bs, iff0]
    exact hbad
