/-! the reference's order -/
def FrO (vm vm' : US) : Prop := vm'.1 = vm.1 ∧ vm'.2.1 = vm.2.1 ∧ ∀ s, s ≠ 12 → vm'.2.2 s = vm.2.2 s
theorem FrO.rf (vm : US) : FrO vm vm := ⟨rfl, rfl, fun _ _ => rfl⟩
theorem FrO.tr {x y z : US} (h : FrO x y) (g : FrO y z) : FrO x z := ⟨g.1.trans h.1, g.2.1.trans h.2.1, fun s hs => (g.2.2 s hs).trans (h.2.2 s hs)⟩
theorem FrO.sc {x y : US} (h : FrO x y) : ScrM x y := ⟨h.2.1, by rw [h.1], h.2.2 1 (by decide), h.2.2 2 (by decide), h.2.2 3 (by decide), h.2.2 16 (by decide)⟩
theorem FrO.tk {x y : US} (h : FrO x y) {a : AV} {wh : Nat} (t : Taken x a wh) : Taken y a wh := ⟨by rw [h.1]; exact t.1, by rw [h.2.2 6 (by decide)]; exact t.2⟩
theorem lo_m {N : Nat} (hN : 200000 ≤ N) {w : Nat → Int32} {a : AV} (hv : Valid a) (hm : RM w a) {code : Nat} : ∀ k K vm l u, k ≤ a.1 8 → k < K → l < 2 ^ 31 → u < 32 → u ||| od_u (a.1 8) k l = od_u (a.1 8) (a.1 8) code → (∀ j, j < k → od_d (a.1 8) k l j = od_d (a.1 8) (a.1 8) code j) → (∀ j, k ≤ j → j < a.1 8 → vm.2.2 12 j = nI (od_d (a.1 8) (a.1 8) code j)) → ∃ vm', f_X12_layOrder_12 N K vm w (nI l) (nI u) (nI k - 1) = some (od_ok (a.1 8) (a.1 8) code, vm') ∧ (∀ j, j < a.1 8 → vm'.2.2 12 j = nI (od_d (a.1 8) (a.1 8) code j)) ∧ FrO vm vm' := by
  have h8 := hv.2.2.2.2.1
  intro k
  induction k with
  | zero =>
    intro K vm l u hk hK hl hu e1 e2 e3
    obtain ⟨K, rfl⟩ : ∃ j, K = j + 1 := ⟨K - 1, by omega⟩
    refine ⟨vm, ?_, fun j hj => e3 j (Nat.zero_le _) hj, FrO.rf _⟩
    show b_X12_layOrder_12 N _ _ _ _ _ _ = _
    unfold b_X12_layOrder_12
    have e1 : u ||| 0 = od_u (a.1 8) (a.1 8) code := e1
    rw [Nat.or_zero] at e1
    rw [if_pos (by decide), bits_ms hN hu, bs, m_errands, bs, hm.2.2.2.1, e1]
    rcases Nat.eq_zero_or_pos (a.1 8) with h0 | h0
    · rw [h0]
      have e9 : pcd 5 (od_u 0 0 code) = 0 := by show pcd 5 0 = 0; decide
      rw [e9, if_pos rfl]
      rfl
    · obtain ⟨p1, p2⟩ := od_pc h0 h8 (a.1 8) code
      by_cases c : pcd 5 (od_u (a.1 8) (a.1 8) code) = a.1 8
      · rw [if_pos (by rw [c]), p2.mp c]
      · rw [if_neg (fun h => c ((nI_eq (by omega) (by omega)).mp h))]
        cases q : od_ok (a.1 8) (a.1 8) code
        · rfl
        · exact absurd (p2.mpr q) c
  | succ k ih =>
    intro K vm l u hk hK hl hu e1 e2 e3
    obtain ⟨K, rfl⟩ : ∃ j, K = j + 1 := ⟨K - 1, by omega⟩
    have h0 : 0 < a.1 8 := by omega
    have hml := Nat.mod_lt l h0
    have hdl : l / a.1 8 ≤ l := Nat.div_le_self _ _
    have e4 : od_d (a.1 8) (a.1 8) code k = l % a.1 8 := by
      rw [← e2 k (by omega)]
      unfold od_d
      rw [show k + 1 - 1 - k = 0 by omega, Nat.pow_zero, Nat.div_one]
    obtain ⟨vm', q1, q2, q3⟩ := ih K (upa vm 12 k (nI (l % a.1 8))) (l / a.1 8) (u ||| 2 ^ (l % a.1 8)) (by omega) (by omega) (by omega) (od_orl _ (by omega) u hu).1 (by
        rw [← e1]
        show _ = u ||| (od_u (a.1 8) k (l / a.1 8) ||| 2 ^ (l % a.1 8))
        rw [Nat.or_assoc, Nat.or_comm (2 ^ (l % a.1 8))]) (fun j hj => by
        rw [← e2 j (by omega)]
        unfold od_d
        rw [show k + 1 - 1 - j = (k - 1 - j) + 1 by omega, od_dd]) (fun j h1 h2 => by
        show upd (vm.2.2 12) k _ j = _
        by_cases c : j = k
        · subst c; rw [pk_us, e4]
        · rw [pk_un c]; exact e3 j (by omega) h2)
    refine ⟨vm', ?_, q2, FrO.tr (y := upa vm 12 k (nI (l % a.1 8))) ⟨rfl, rfl, fun s hs => if_neg hs⟩ q3⟩
    show b_X12_layOrder_12 N _ _ _ _ _ _ = _
    unfold b_X12_layOrder_12
    rw [nI_pred, if_neg (nI_pos (by omega)), m_errands, bs, hm.2.2.2.1, if_neg (nI_ne0 h0 (by omega)), ck_in (by omega) (by decide), ck_in (by omega) (by decide), nI_clamp (by omega), pk_rem hl h0 (by omega), m_errands, bs, hm.2.2.2.1, if_neg (nI_ne0 h0 (by omega)), pk_div hl h0 (by omega), pk_us, (fin_bit _ (by omega) u hu).2.2, ← Int32.sub_eq_add_neg]
    exact q1
theorem lay_m {N : Nat} (hN : 200000 ≤ N) {w : Nat → Int32} {a : AV} (hv : Valid a) (hm : RM w a) {code : Nat} (hc : code < 2 ^ 31) (vm : US) : ∃ vm', f_X12_layOrder N vm w (nI code) = some (od_ok (a.1 8) (a.1 8) code, vm') ∧ (∀ j, j < a.1 8 → vm'.2.2 12 j = nI (od_d (a.1 8) (a.1 8) code j)) ∧ FrO vm vm' := by
  have h8 := hv.2.2.2.2.1
  unfold f_X12_layOrder
  rw [m_errands, bs, hm.2.2.2.1]
  exact lo_m hN hv hm (a.1 8) N vm code 0 (Nat.le_refl _) (by omega) hc (by decide) (Nat.zero_or _) (fun _ _ => rfl) (fun j h1 h2 => by omega)
theorem hor_m {N : Nat} (hN : 200000 ≤ N) {w : Nat → Int32} {a : AV} (hv : Valid a) (hm : RM w a) {code : Nat} : ∀ d k K vm, k + d = a.1 8 → d < K → Taken vm a (a.1 5) → (∀ j, j < a.1 8 → vm.2.2 12 j = nI (od_d (a.1 8) (a.1 8) code j)) → ∃ vm', f_X12_harmOfRow_12 N K vm w (nI (od_s a k (code / (a.1 8) ^ (a.1 8 - k)))) (nI (od_h a k (code / (a.1 8) ^ (a.1 8 - k)))) (nI k) = some (nI (od_h a (a.1 8) code), vm') ∧ FrM vm vm' := by
  have h8 := hv.2.2.2.2.1
  have hw := lt32 hv.1 hv.2.1
  intro d
  induction d with
  | zero =>
    intro k K vm hk hK ht hr
    obtain ⟨K, rfl⟩ : ∃ j, K = j + 1 := ⟨K - 1, by omega⟩
    have : k = a.1 8 := by omega
    subst this
    refine ⟨vm, ?_, FrM.rf _⟩
    show b_X12_harmOfRow_12 N _ _ _ _ _ _ = _
    unfold b_X12_harmOfRow_12
    rw [m_errands, bs, hm.2.2.2.1, if_pos (nI_le (Nat.le_refl _) (by omega)), Nat.sub_self, Nat.pow_zero, Nat.div_one]
  | succ d ih =>
    intro k K vm hk hK ht hr
    obtain ⟨K, rfl⟩ : ∃ j, K = j + 1 := ⟨K - 1, by omega⟩
    have h0 : 0 < a.1 8 := by omega
    have ed : od_d (a.1 8) (a.1 8) code k = code / (a.1 8) ^ (a.1 8 - (k + 1)) % a.1 8 := by
      unfold od_d
      rw [show a.1 8 - 1 - k = a.1 8 - (k + 1) by omega]
    have ep : code / (a.1 8) ^ (a.1 8 - (k + 1)) / a.1 8 = code / (a.1 8) ^ (a.1 8 - k) := by
      rw [Nat.div_div_eq_div_mul, ← Nat.pow_succ, show (a.1 8 - (k + 1)).succ = a.1 8 - k by omega]
    have hml := Nat.mod_lt (code / (a.1 8) ^ (a.1 8 - (k + 1))) h0
    have hst := od_s_lt hv k (code / (a.1 8) ^ (a.1 8 - k))
    have hal := act_lt a (a.1 5) (code / (a.1 8) ^ (a.1 8 - (k + 1)) % a.1 8) (od_s a k (code / (a.1 8) ^ (a.1 8 - k)))
    obtain ⟨vm1, d1, d2⟩ := de_m hN hv hm hw ht (e := code / (a.1 8) ^ (a.1 8 - (k + 1)) % a.1 8) hml (lt32 hv.1 hst)
    obtain ⟨vm', q1, q2⟩ := ih (k + 1) K vm1 (by omega) (by omega) (d2.tk ht) (by rw [d2.1]; exact hr)
    have es : od_s a (k + 1) (code / (a.1 8) ^ (a.1 8 - (k + 1))) = act a (a.1 5) (code / (a.1 8) ^ (a.1 8 - (k + 1)) % a.1 8) (od_s a k (code / (a.1 8) ^ (a.1 8 - k))) := by
      rw [← ep]; rfl
    have eh : od_h a (k + 1) (code / (a.1 8) ^ (a.1 8 - (k + 1))) = od_h a k (code / (a.1 8) ^ (a.1 8 - k)) + hmN a (mn (act a (a.1 5) (code / (a.1 8) ^ (a.1 8 - (k + 1)) % a.1 8) (od_s a k (code / (a.1 8) ^ (a.1 8 - k)))) (od_s a k (code / (a.1 8) ^ (a.1 8 - k)))) (a.1 0) := by
      rw [← ep]; rfl
    refine ⟨vm', ?_, d2.tr q2⟩
    show b_X12_harmOfRow_12 N _ _ _ _ _ _ = _
    unfold b_X12_harmOfRow_12
    rw [m_errands, bs, hm.2.2.2.1, if_neg (nI_nle2 (a := a.1 8) (by omega) (by omega)), ck_in (by omega) (by decide), nI_clamp (by omega), hr k (by omega), ed, d1, bs, mn_nI _ (lt32 hv.1 hal) _ (lt32 hv.1 hst), harm_m hN hv hm (mn_lt (lt32 hv.1 hal) _), bs, nI_add, nI_1, ← eh, ← es]
    exact q1
theorem hrow_m {N : Nat} (hN : 200000 ≤ N) {w : Nat → Int32} {a : AV} (hv : Valid a) (hm : RM w a) {code : Nat} {vm : US} (hc : code < (a.1 8) ^ (a.1 8)) (ht : Taken vm a (a.1 5)) (hr : ∀ j, j < a.1 8 → vm.2.2 12 j = nI (od_d (a.1 8) (a.1 8) code j)) : ∃ vm', f_X12_harmOfRow N vm w = some (nI (od_h a (a.1 8) code), vm') ∧ FrM vm vm' := by
  have h8 := hv.2.2.2.2.1
  unfold f_X12_harmOfRow
  rw [if_neg (by decide), show (27 : Int32).toNatClampNeg = 27 from by decide, hm.2.2.1]
  exact hor_m hN hv hm (a.1 8) 0 N vm (by omega) (by omega) ht hr
/-- the row is kept if it harms less -/
theorem o71_a {N : Nat} {g : US → (Nat → Int32) → Int32 → Int32 → Int32 → Option (Int32 × US)} {w : Nat → Int32} {a : AV} (hv : Valid a) (hm : RM w a) {h L : Nat} (hL : L < 2 ^ 31) (c : h < L) {y1 y2 y3 : Int32} : ∀ d k K vm, k + d = a.1 8 → d < K → vm.1 14 = nI L → (∀ j, j < k → vm.2.2 13 j = vm.2.2 12 j) → ∃ vm', f_X12_order_71 N g K vm w y1 y2 y3 (nI h) (nI k) = g vm' w y1 y2 (y3 + 1) ∧ vm'.1 14 = nI h ∧ (∀ j, j < a.1 8 → vm'.2.2 13 j = vm.2.2 12 j) ∧ (∀ s, s ≠ 14 → vm'.1 s = vm.1 s) ∧ vm'.2.1 = vm.2.1 ∧ (∀ s, s ≠ 13 → vm'.2.2 s = vm.2.2 s) := by
  have h8 := hv.2.2.2.2.1
  intro d
  induction d with
  | zero =>
    intro k K vm hk hK e14 er
    obtain ⟨K, rfl⟩ : ∃ j, K = j + 1 := ⟨K - 1, by omega⟩
    have : k = a.1 8 := by omega
    subst this
    refine ⟨upi vm 14 (nI h), ?_, rfl, er, fun s hs => if_neg hs, rfl, fun _ _ => rfl⟩
    show b_X12_order_71 N _ _ _ _ _ _ _ _ _ = _
    unfold b_X12_order_71 b_X12_order_109
    rw [m_errands, bs, hm.2.2.2.1, if_pos (nI_le (Nat.le_refl _) (by omega)), e14, if_neg (nI_nle2 (a := L) c hL)]
  | succ d ih =>
    intro k K vm hk hK e14 er
    obtain ⟨K, rfl⟩ : ∃ j, K = j + 1 := ⟨K - 1, by omega⟩
    obtain ⟨vm', q1, q2, q3, q4, q5, q6⟩ := ih (k + 1) K (upa vm 13 k (vm.2.2 12 k)) (by omega) (by omega) e14 (fun j hj => by
      show upd (vm.2.2 13) k _ j = vm.2.2 12 j
      by_cases cj : j = k
      · subst cj; rw [pk_us]
      · rw [pk_un cj]; exact er j (by omega))
    refine ⟨vm', ?_, q2, q3, q4, q5, fun s hs => (q6 s hs).trans (if_neg hs)⟩
    show b_X12_order_71 N _ _ _ _ _ _ _ _ _ = _
    unfold b_X12_order_71
    rw [m_errands, bs, hm.2.2.2.1, if_neg (nI_nle2 (a := a.1 8) (by omega) (by omega)), e14, if_neg (nI_nle2 (a := L) c hL), ck_in (by omega) (by decide), ck_in (by omega) (by decide), nI_clamp (by omega), nI_1]
    exact q1
theorem o71_b {N : Nat} (hN : 200000 ≤ N) {g : US → (Nat → Int32) → Int32 → Int32 → Int32 → Option (Int32 × US)} {w : Nat → Int32} {vm : US} {h L : Nat} (hh : h < 2 ^ 31) (c : L ≤ h) (e14 : vm.1 14 = nI L) {y1 y2 y3 : Int32} : f_X12_order_71 N g N vm w y1 y2 y3 (nI h) 0 = g (upi vm 14 (nI L)) w y1 y2 (y3 + 1) := by
  obtain ⟨k, rfl⟩ : ∃ j, N = j + 1 := ⟨N - 1, by omega⟩
  show b_X12_order_71 _ _ _ _ _ _ _ _ _ _ = _
  unfold b_X12_order_71 b_X12_order_109
  rw [m_errands, bs, e14, if_pos (nI_le c hh), if_pos (nI_le c hh)]
  by_cases c2 : w 28 ≤ 0
  · rw [if_pos c2]
  · rw [if_neg c2]
def MS (vm : US) (a : AV) (s m : Nat) : Prop := Taken vm a (a.1 5) ∧ vm.1 14 = nI (od_b a s m).1 ∧ ((od_b a s m).1 < s → ∀ i, i < a.1 8 → vm.2.2 13 i = nI (od_d (a.1 8) (a.1 8) (od_b a s m).2 i))
theorem pw5 {n : Nat} (h : n ≤ 5) : n ^ n ≤ 3125 := by
  have : n = 0 ∨ n = 1 ∨ n = 2 ∨ n = 3 ∨ n = 4 ∨ n = 5 := by omega
  rcases this with rfl | rfl | rfl | rfl | rfl | rfl <;> decide
theorem o49 {N : Nat} (hN : 200000 ≤ N) {w : Nat → Int32} {a : AV} (hv : Valid a) (hm : RM w a) {s : Nat} (hs : s < 2 ^ 30) {y1 : Int32} : ∀ d m K vm, m + d = (a.1 8) ^ (a.1 8) → d < K → MS vm a s m → ∃ vm', f_X12_order_49 N K vm w y1 (nI ((a.1 8) ^ (a.1 8))) (nI m) = b_X12_order_49 N (fun _ _ _ _ _ => none) vm' w y1 (nI ((a.1 8) ^ (a.1 8))) (nI ((a.1 8) ^ (a.1 8))) ∧ MS vm' a s ((a.1 8) ^ (a.1 8)) ∧ ScrM vm vm' := by
  have h8 := hv.2.2.2.2.1
  have hp := pw5 h8
  intro d
  induction d with
  | zero =>
    intro m K vm hm1 hK hM
    obtain ⟨K, rfl⟩ : ∃ j, K = j + 1 := ⟨K - 1, by omega⟩
    have : m = (a.1 8) ^ (a.1 8) := by omega
    subst this
    refine ⟨vm, ?_, hM, ScrM.rf _⟩
    show b_X12_order_49 N _ _ _ _ _ _ = _
    unfold b_X12_order_49
    rw [if_pos (nI_le (Nat.le_refl _) (by omega)), if_pos (nI_le (Nat.le_refl _) (by omega))]
  | succ d ih =>
    intro m K vm hm1 hK hM
    obtain ⟨K, rfl⟩ : ∃ j, K = j + 1 := ⟨K - 1, by omega⟩
    obtain ⟨vm1, a1, a2, a3⟩ := lay_m hN hv hm (code := m) (by omega) vm
    have e6 : od_b a s (m + 1) = if od_ok (a.1 8) (a.1 8) m = true ∧ od_h a (a.1 8) m < (od_b a s m).1 then (od_h a (a.1 8) m, m) else od_b a s m := rfl
    have hle := od_h_le hv (a.1 8) m
    have hbl := od_ble a s m
    show ∃ vm', b_X12_order_49 N _ _ _ _ _ _ = _ ∧ _
    unfold b_X12_order_49
    rw [if_neg (nI_nle2 (a := (a.1 8) ^ (a.1 8)) (by omega) (by omega)), a1, bs]
    have a14 : vm1.1 14 = nI (od_b a s m).1 := by rw [a3.1]; exact hM.2.1
    have a13 : vm1.2.2 13 = vm.2.2 13 := a3.2.2 13 (by decide)
    cases qo : od_ok (a.1 8) (a.1 8) m
    · rw [if_neg (by rw [qo]; simp)] at e6
      show ∃ vm', (if b2i false = 0 then _ else _) = _ ∧ _
      rw [iff0, nI_1]
      obtain ⟨vm', q1, q2, q3⟩ := ih (m + 1) K vm1 (by omega) (by omega) ⟨a3.tk hM.1, by rw [e6]; exact a14, by rw [e6, a13]; exact hM.2.2⟩
      exact ⟨vm', q1, q2, a3.sc.tr q3⟩
    · show ∃ vm', (if b2i true = 0 then _ else _) = _ ∧ _
      rw [ift]
      obtain ⟨vm2, b1, b2⟩ := hrow_m hN hv hm (code := m) (by omega) (a3.tk hM.1) a2
      rw [b1, bs]
      have b14 : vm2.1 14 = nI (od_b a s m).1 := (b2.2 14 (by omega)).trans a14
      by_cases cc : od_h a (a.1 8) m < (od_b a s m).1
      · rw [if_pos ⟨qo, cc⟩] at e6
        obtain ⟨vm3, c1, c2, c3, c4, c5, c6⟩ := o71_a (N := N) (g := f_X12_order_49 N K) hv hm (h := od_h a (a.1 8) m) (L := (od_b a s m).1) (by omega) cc (y1 := y1) (y2 := nI ((a.1 8) ^ (a.1 8))) (y3 := nI m) (a.1 8) 0 N vm2 (by omega) (by omega) b14 (fun j hj => absurd hj (Nat.not_lt_zero j))
        have c1 : f_X12_order_71 N (f_X12_order_49 N K) N vm2 w y1 (nI ((a.1 8) ^ (a.1 8))) (nI m) (nI (od_h a (a.1 8) m)) 0 = _ := c1
        rw [c1, nI_1]
        have t2 := b2.tk (a3.tk hM.1)
        obtain ⟨vm', q1, q2, q3⟩ := ih (m + 1) K vm3 (by omega) (by omega) ⟨⟨(c4 7 (by decide)).trans t2.1, by rw [c6 6 (by decide)]; exact t2.2⟩, by rw [e6]; exact c2, fun _ i hi => by
          rw [e6]
          show vm3.2.2 13 i = nI (od_d (a.1 8) (a.1 8) m i)
          rw [c3 i hi, b2.1]; exact a2 i hi⟩
        exact ⟨vm', q1, q2, (a3.sc.tr b2.sc).tr (ScrM.tr ⟨c5, c4 17 (by decide), c6 1 (by decide), c6 2 (by decide), c6 3 (by decide), c6 16 (by decide)⟩ q3)⟩
      · rw [if_neg (fun h => cc h.2)] at e6
        rw [o71_b hN (by omega) (by omega) b14, nI_1]
        obtain ⟨vm', q1, q2, q3⟩ := ih (m + 1) K (upi vm2 14 (nI (od_b a s m).1)) (by omega) (by omega) ⟨b2.tk (a3.tk hM.1), by rw [e6]; rfl, by
          rw [e6]
          show _ → ∀ i, i < a.1 8 → vm2.2.2 13 i = _
          rw [b2.1, a13]; exact hM.2.2⟩
        exact ⟨vm', q1, q2, (a3.sc.tr b2.sc).tr (ScrM.tr ⟨rfl, rfl, rfl, rfl, rfl, rfl⟩ q3)⟩
theorem o20 {N : Nat} {w : Nat → Int32} {a : AV} (hv : Valid a) (hm : RM w a) {y1 : Int32} {vm : US} : ∀ d k K, k + d = a.1 8 → d < K → f_X12_order_20 N K vm w y1 (nI ((a.1 8) ^ k)) (nI k) = f_X12_order_49 N N (upi vm 14 100000) w y1 (nI ((a.1 8) ^ (a.1 8))) 0 := by
  have h8 := hv.2.2.2.2.1
  intro d
  induction d with
  | zero =>
    intro k K hk hK
    obtain ⟨K, rfl⟩ : ∃ j, K = j + 1 := ⟨K - 1, by omega⟩
    have : k = a.1 8 := by omega
    subst this
    show b_X12_order_20 N _ _ _ _ _ _ = _
    unfold b_X12_order_20
    rw [m_errands, bs, hm.2.2.2.1, if_pos (nI_le (Nat.le_refl _) (by omega))]
  | succ d ih =>
    intro k K hk hK
    obtain ⟨K, rfl⟩ : ∃ j, K = j + 1 := ⟨K - 1, by omega⟩
    show b_X12_order_20 N _ _ _ _ _ _ = _
    unfold b_X12_order_20
    rw [m_errands, bs, hm.2.2.2.1, if_neg (nI_nle2 (a := a.1 8) (by omega) (by omega)), bs, pk_mul, ← Nat.pow_succ, nI_1]
    exact ih (k + 1) K (by omega) (by omega)
theorem od_two {a : AV} (hv : Valid a) {s t : Nat} (hs : 1000 ≤ s) (ht : 1000 ≤ t) : ∀ m, (od_b a s m = od_b a t m ∧ (od_b a s m).1 < 1000) ∨ (od_b a s m = (s, 0) ∧ od_b a t m = (t, 0) ∧ ∀ j, j < m → od_ok (a.1 8) (a.1 8) j = false) := by
  have h8 := hv.2.2.2.2.1
  intro m
  induction m with
  | zero => exact Or.inr ⟨rfl, rfl, fun j hj => absurd hj (Nat.not_lt_zero j)⟩
  | succ m ih =>
    have hle := od_h_le hv (a.1 8) m
    have e1 : ∀ s, od_b a s (m + 1) = if od_ok (a.1 8) (a.1 8) m = true ∧ od_h a (a.1 8) m < (od_b a s m).1 then (od_h a (a.1 8) m, m) else od_b a s m := fun _ => rfl
    rw [e1, e1]
    rcases ih with ⟨h1, h2⟩ | ⟨h1, h2, h3⟩
    · left
      rw [h1]
      rw [h1] at h2
      refine ⟨rfl, ?_⟩
      split
      · show od_h a (a.1 8) m < 1000; omega
      · exact h2
    · rw [h1, h2]
      cases q : od_ok (a.1 8) (a.1 8) m
      · right
        refine ⟨if_neg (by simp), if_neg (by simp), fun j hj => ?_⟩
        by_cases c : j = m
        · rw [c, q]
        · exact h3 j (by omega)
      · left
        rw [if_pos ⟨rfl, by show _ < s; omega⟩, if_pos ⟨rfl, by show _ < t; omega⟩]
        exact ⟨rfl, by show od_h a (a.1 8) m < 1000; omega⟩
theorem od_any {E : Nat} (h : E ≤ 5) : ∃ j, j < E ^ E ∧ od_ok E E j = true := by
  have : E = 0 ∨ E = 1 ∨ E = 2 ∨ E = 3 ∨ E = 4 ∨ E = 5 := by omega
  rcases this with rfl | rfl | rfl | rfl | rfl | rfl
  · exact ⟨0, by decide, by decide⟩
  · exact ⟨0, by decide, by decide⟩
  · exact ⟨1, by decide, by decide⟩
  · exact ⟨5, by decide, by decide⟩
  · exact ⟨27, by decide, by decide⟩
  · exact ⟨194, by decide, by decide⟩
theorem od_fin {a : AV} (hv : Valid a) : od_b a 1000000 ((a.1 8) ^ (a.1 8)) = od_b a 100000 ((a.1 8) ^ (a.1 8)) ∧ (od_b a 1000000 ((a.1 8) ^ (a.1 8))).1 < 1000 := by
  rcases od_two hv (s := 1000000) (t := 100000) (by decide) (by decide) ((a.1 8) ^ (a.1 8)) with h | ⟨-, -, h⟩
  · exact h
  · obtain ⟨j, j1, j2⟩ := od_any hv.2.2.2.2.1
    rw [h j j1] at j2
    exact absurd j2 (by decide)
theorem sim_order {N : Nat} (hN : 200000 ≤ N) {vob vn : US} {tx : Nat → Int32} {i0 i1 : Option US} {vm : US} {w : Nat → Int32} (hI : Inv vob vn tx i0 i1 vm w) (vd : US) (vds : US) (k0 : Int32) : ∃ rx rm, f_X11_order N vob vd vds vn k0 = some rx ∧ f_X12_order N vm w k0 = some rm ∧ rx.1 = rm.1 ∧ Inv rx.2.1 vn tx i0 i1 rm.2 w := by
  obtain ⟨a, hv, hx, hm⟩ := hI.1
  have h8 := hv.2.2.2.2.1
  have hp := pw5 h8
  unfold f_X11_order f_X12_order
  by_cases c : -1 ≤ k0
  · rw [if_pos c, if_pos c, hx.2.2.2.2.1]
    obtain ⟨vm1, t1, t2, t3⟩ := tk_m hN (vm := vm) hv hm
    obtain ⟨vm2, r1, r2, r3⟩ := o49 hN hv hm (s := 100000) (by decide) (y1 := k0) ((a.1 8) ^ (a.1 8)) 0 N (upi vm1 14 100000) (by omega) (by omega) ⟨t2, rfl, fun h => absurd h (Nat.lt_irrefl _)⟩
    have r1 : f_X12_order_49 N N (upi vm1 14 100000) w k0 (nI ((a.1 8) ^ (a.1 8))) 0 = _ := r1
    have r0 : f_X12_order_20 N N vm1 w k0 1 0 = _ := o20 (N := N) hv hm (y1 := k0) (vm := vm1) (a.1 8) 0 N (by omega) (by omega)
    obtain ⟨f1, f2⟩ := od_fin hv
    have hs : ScrM vm vm2 := t3.tr (ScrM.tr (b := upi vm1 14 100000) ⟨rfl, rfl, rfl, rfl, rfl, rfl⟩ r3)
    rw [t1, bs, r0, r1]
    unfold b_X12_order_49
    rw [if_pos (nI_le (Nat.le_refl _) (by omega)), m_errands, bs, hm.2.2.2.1]
    obtain ⟨vd1, sw1, x1, x2⟩ := fo_x hN hv hx vd vds
    by_cases c1 : k0 = -1
    · subst c1
      rw [if_pos rfl]
      by_cases c2 : (-1 : Int32) < nI (a.1 8)
      · rw [if_pos c2, x1, bs, if_pos rfl]
        refine ⟨_, _, rfl, rfl, ?_, hI.scr hs⟩
        show vd1.1 5 = vm2.1 14
        rw [x2.2.1, r2.2.1, f1]
      · exact absurd (show (-1 : Int32) < nI (a.1 8) by
          rw [Int32.lt_iff_toInt_lt, nI_toInt (by omega), show (-1 : Int32).toInt = -1 from by decide]
          omega) c2
    · rw [if_neg c1]
      have c0 : ¬ k0 < 0 := by
        intro h
        apply c1
        rw [← Int32.toInt_inj]
        rw [Int32.lt_iff_toInt_lt] at h
        rw [Int32.le_iff_toInt_le] at c
        rw [show (-1 : Int32).toInt = -1 from by decide] at c ⊢
        rw [show (0 : Int32).toInt = 0 from by decide] at h
        omega
      obtain ⟨j, hj, rfl⟩ := nI_of c0
      by_cases c2 : j < a.1 8
      · rw [if_pos (nI_lt c2 (by omega)), x1, bs, if_neg c1, if_neg (nI_nle2 (a := a.1 8) c2 (by omega)), ck_in (by omega) (by decide), ck_in (by omega) (by decide), nI_clamp (by omega)]
        refine ⟨_, _, rfl, rfl, ?_, hI.scr hs⟩
        show vd1.2.2 6 j = vm2.2.2 13 j
        rw [x2.2.2 (by omega) j c2, r2.2.2 (by rw [← f1]; omega) j c2, f1]
      · rw [if_neg (nI_nlt (by omega) (by omega)), if_pos (nI_le (by omega) hj)]
        refine ⟨_, _, rfl, rfl, ?_, hI.scr hs⟩
        rfl
  · rw [if_neg c, if_neg c]
    refine ⟨_, _, rfl, rfl, ?_, ?_⟩
    · rfl
    · exact hI.bad
