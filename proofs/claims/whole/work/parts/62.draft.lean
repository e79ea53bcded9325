/-! reading: the draft -/
def ext (nx : Nat → Int32) : Nat → Int32 := fun k => if k < 52 then nx k else 0
def Dr (vd : US) (nx : Nat → Int32) : Prop := Both vd (ext nx)
def z0US : US := (fun _ => 0, fun _ => 0, fun _ _ => 0)
theorem dr_inv {vd : US} {nx : Nat → Int32} (h : Dr vd nx) : Inv z0US vd (fun _ => 0) none none z0US (ext nx) :=
  ⟨h, Or.inl ⟨rfl, rfl⟩, Or.inl ⟨rfl, rfl⟩, ⟨0, by omega, rfl, rfl, fun k hk => absurd hk (Nat.not_lt_zero k)⟩, ⟨rfl, rfl, rfl⟩, rfl, rfl⟩
theorem ext_lt {nx : Nat → Int32} {k : Nat} (h : k < 52) : ext nx k = nx k := if_pos h
theorem ext_upd {nx : Nat → Int32} {k : Nat} {x : Int32} (h : k < 52) : ext (upd nx k x) = upd (ext nx) k x := by
  funext j
  unfold ext upd
  by_cases c : j = k
  · rw [if_pos c, if_pos c, if_pos (by omega)]
  · rw [if_neg c, if_neg c]
theorem ck_g {α : Type} {i n : Nat} {x : Int32} {k : Option α} (hx : x = nI i) (h : i < n) (hi : i < 2 ^ 31) : (if x < 0 ∨ n ≤ x.toNatClampNeg then none else k) = k := by
  subst hx
  rw [if_neg]
  intro q
  rcases q with q | q
  · exact nI_pos hi q
  · rw [nI_clamp hi] at q; omega
theorem layT_g {w : Nat → Int32} {n T : Nat} (hw : w 0 = nI T) (hT : T < 5) (hn : 26 ≤ n) (q1 q2 q3 q4 : Int32) : f_X12_layThing w n q1 q2 q3 q4 = some (upd (upd (upd (upd (upd (upd w (1 + 5 * T) q1) (2 + 5 * T) q2) (3 + 5 * T) q3) (4 + 5 * T) q4) (5 + 5 * T) 1) 0 (nI (T + 1))) := by
  unfold f_X12_layThing
  have ez : (0 : Int32).toNatClampNeg = 0 := by decide
  have c0 : ∀ {α : Type} (k : Option α), (if (0 : Int32) < 0 ∨ n ≤ (0 : Int32).toNatClampNeg then none else k) = k := fun k => ck_g (i := 0) rfl (by omega) (by decide)
  have f0 : (1 : Int32) + 5 * nI T = nI (1 + 5 * T) := by
    rw [show (1 : Int32) = nI 1 from rfl, show (5 : Int32) = nI 5 from rfl, pk_mul, nI_add]
  have f1 : nI (1 + 5 * T) + 0 = nI (1 + 5 * T) := by rw [show (0 : Int32) = nI 0 from rfl, nI_add]; rfl
  have f2 : nI (1 + 5 * T) + 1 = nI (2 + 5 * T) := by rw [nI_1]; congr 1; omega
  have f3 : nI (1 + 5 * T) + 2 = nI (3 + 5 * T) := by rw [show (2 : Int32) = nI 2 from rfl, nI_add]; congr 1; omega
  have f4 : nI (1 + 5 * T) + 3 = nI (4 + 5 * T) := by rw [show (3 : Int32) = nI 3 from rfl, nI_add]; congr 1; omega
  have f5 : nI (1 + 5 * T) + 4 = nI (5 + 5 * T) := by rw [show (4 : Int32) = nI 4 from rfl, nI_add]; congr 1; omega
  simp only [c0, ez, bnd_eq, hw, f0, f1, f2, f3, f4, f5]
  rw [ck_g (i := 1 + 5 * T) rfl (by omega) (by omega), ck_g (i := 2 + 5 * T) rfl (by omega) (by omega), ck_g (i := 3 + 5 * T) rfl (by omega) (by omega), ck_g (i := 4 + 5 * T) rfl (by omega) (by omega), ck_g (i := 5 + 5 * T) rfl (by omega) (by omega), nI_clamp (by omega), nI_clamp (by omega), nI_clamp (by omega), nI_clamp (by omega), nI_clamp (by omega)]
  have e8 : upd (upd (upd (upd (upd w (1 + 5 * T) q1) (2 + 5 * T) q2) (3 + 5 * T) q3) (4 + 5 * T) q4) (5 + 5 * T) 1 0 + 1 = nI (T + 1) := by
    simp only [upd]
    rw [if_neg (by omega), if_neg (by omega), if_neg (by omega), if_neg (by omega), if_neg (by omega), hw, nI_1]
  have hc : ¬ ((0 : Int32) < 0 ∨ n ≤ 0) := fun q => by
    rcases q with q | q
    · exact absurd q (by decide)
    · omega
  rw [e8, if_neg hc, if_neg hc, if_neg hc]
theorem layR_g {w : Nat → Int32} {n R : Nat} (hw : w 39 = nI R) (hR : R < 4) (hn : 52 ≤ n) (q1 q2 q3 : Int32) : f_X12_layRule w n q1 q2 q3 = some (upd (upd (upd (upd w (40 + 3 * R) q1) (41 + 3 * R) q2) (42 + 3 * R) q3) 39 (nI (R + 1))) := by
  unfold f_X12_layRule
  have ez : (39 : Int32).toNatClampNeg = 39 := by decide
  have c0 : ∀ {α : Type} (k : Option α), (if (39 : Int32) < 0 ∨ n ≤ (39 : Int32).toNatClampNeg then none else k) = k := fun k => ck_g (i := 39) rfl (by omega) (by decide)
  have f0 : (40 : Int32) + 3 * nI R = nI (40 + 3 * R) := at40 R
  have f2 : nI (40 + 3 * R) + 1 = nI (41 + 3 * R) := by rw [nI_1]; congr 1; omega
  have f3 : nI (40 + 3 * R) + 2 = nI (42 + 3 * R) := by rw [show (2 : Int32) = nI 2 from rfl, nI_add]; congr 1; omega
  simp only [c0, ez, bnd_eq, hw, f0, f2, f3]
  rw [ck_g (i := 40 + 3 * R) rfl (by omega) (by omega), ck_g (i := 41 + 3 * R) rfl (by omega) (by omega), ck_g (i := 42 + 3 * R) rfl (by omega) (by omega), nI_clamp (by omega), nI_clamp (by omega), nI_clamp (by omega)]
  have e8 : upd (upd (upd w (40 + 3 * R) q1) (41 + 3 * R) q2) (42 + 3 * R) q3 39 + 1 = nI (R + 1) := by
    simp only [upd]
    rw [if_neg (by omega), if_neg (by omega), if_neg (by omega), hw, nI_1]
  have hc : ¬ ((39 : Int32) < 0 ∨ n ≤ 39) := fun q => by
    rcases q with q | q
    · exact absurd q (by decide)
    · omega
  rw [e8, if_neg hc, if_neg hc, if_neg hc]
theorem dr_thing {N : Nat} (hN : 200000 ≤ N) {vd : US} {nx : Nat → Int32} (h : Dr vd nx) {T : Nat} (hT : T < 5) (eX : vd.1 0 = nI T) (eM : nx 0 = nI T) {k0 k1 k2 k3 : Int32} (g0 : f_X11_within k0 0 4 = some true) (g1 : f_X11_within k1 0 9 = some true) (g2 : f_X11_within k2 1 9 = some true) (g3 : f_X11_within k3 0 9 = some true) : ∃ vd' nx', f_X9_addThing vd k0 k1 k2 k3 = some vd' ∧ f_X12_layThing nx 52 k0 k1 k2 k3 = some nx' ∧ Dr vd' nx' := by
  obtain ⟨rx, rm, h1, h2, -, hI⟩ := sim_thing hN (dr_inv h) k0 k1 k2 k3
  have eW : ext nx 0 = nI T := (ext_lt (by decide)).trans eM
  unfold f_X11_thing b_X11_thing_45 at h1
  unfold f_X12_thing at h2
  rw [(in_w4 k0).1, (in_w4 k1).2.1, (in_w4 k2).2.2, (in_w4 k3).2.1, g0, g1, g2, g3] at h2
  rw [g0, g1, g2, g3] at h1
  simp only [bs, ift, m_things] at h1 h2
  rw [if_neg (by decide), eX, if_pos (show nI T < 5 from nI_lt (b := 5) hT (by decide))] at h1
  rw [eW, if_neg (show ¬ nI T = 5 from fun q => by have := (nI_eq (b := 5) (by omega) (by decide)).mp q; omega), layT_g eW hT (by decide), bs] at h2
  have h2 := Option.some.inj h2
  cases hA : f_X9_addThing vd k0 k1 k2 k3 with
  | none => rw [hA] at h1; cases h1
  | some vd' =>
    rw [hA, bs] at h1
    have h1 := Option.some.inj h1
    refine ⟨vd', _, rfl, layT_g eM hT (by decide) _ _ _ _, ?_⟩
    unfold Dr
    rw [ext_upd (by decide), ext_upd (by omega), ext_upd (by omega), ext_upd (by omega), ext_upd (by omega), ext_upd (by omega)]
    have hI := hI.1
    rw [← h1, ← h2] at hI
    exact hI
theorem dr_rule {N : Nat} (hN : 200000 ≤ N) {vd : US} {nx : Nat → Int32} (h : Dr vd nx) {R : Nat} (hR : R < 4) (eX : vd.1 11 = nI R) (eM : nx 39 = nI R) (e0 : vd.1 0 = nx 0) {k0 k1 k2 : Int32} (g0 : f_X9_hasThing vd k0 = some true) (g1 : f_X11_within k1 0 20 = some true) (g2 : f_X9_hasSet vd k2 = some true) : ∃ vd' nx', f_X9_addRule vd k0 k1 k2 = some vd' ∧ f_X12_layRule nx 52 k0 k1 k2 = some nx' ∧ Dr vd' nx' := by
  obtain ⟨rx, rm, h1, h2, -, hI⟩ := sim_rule hN (dr_inv h) k0 k1 k2
  have eW : ext nx 39 = nI R := (ext_lt (by decide)).trans eM
  have e0' : vd.1 0 = ext nx 0 := e0.trans (ext_lt (by decide)).symm
  unfold f_X11_rule f_X11_isPull at h1
  unfold f_X12_rule f_X12_isPull at h2
  rw [ht_m e0', hs_m e0', show f_X12_in k1.toInt64 0 20 = f_X11_within k1 0 20 from in_w k1 0 20, g0, g1, g2] at h2
  rw [g0, g1, g2] at h1
  simp only [bs, ift, m_rules] at h1 h2
  rw [eX, if_pos (show nI R < 4 from nI_lt (b := 4) hR (by decide))] at h1
  rw [eW, if_neg (show ¬ nI R = 4 from fun q => by have := (nI_eq (b := 4) (by omega) (by decide)).mp q; omega), layR_g eW hR (by decide), bs] at h2
  have h2 := Option.some.inj h2
  cases hA : f_X9_addRule vd k0 k1 k2 with
  | none => rw [hA] at h1; cases h1
  | some vd' =>
    rw [hA, bs] at h1
    have h1 := Option.some.inj h1
    refine ⟨vd', _, rfl, layR_g eM hR (by decide) _ _ _, ?_⟩
    unfold Dr
    rw [ext_upd (by decide), ext_upd (by omega), ext_upd (by omega), ext_upd (by omega)]
    have hI := hI.1
    rw [← h1, ← h2] at hI
    exact hI
theorem dr_errand {N : Nat} (hN : 200000 ≤ N) {vd : US} {nx : Nat → Int32} (h : Dr vd nx) {E : Nat} (hE : E < 5) (eX : vd.1 8 = nI E) (eM : nx 28 = nI E) (e0 : vd.1 0 = nx 0) {k0 k1 : Int32} (g0 : f_X9_hasThing vd k0 = some true) (g1 : f_X11_within k1 0 20 = some true) : ∃ vd', f_X9_addErrand vd k0 k1 = some vd' ∧ Dr vd' (upd (upd (upd nx (29 + 2 * E) k0) (30 + 2 * E) k1) 28 (nI (E + 1))) := by
  obtain ⟨rx, rm, h1, h2, -, hI⟩ := sim_errand hN (dr_inv h) k0 k1
  have eW : ext nx 28 = nI E := (ext_lt (by decide)).trans eM
  have e0' : vd.1 0 = ext nx 0 := e0.trans (ext_lt (by decide)).symm
  unfold f_X11_errand f_X11_isPull at h1
  unfold f_X12_errand f_X12_isPull at h2
  rw [ht_m e0', show f_X12_in k1.toInt64 0 20 = f_X11_within k1 0 20 from in_w k1 0 20, g0, g1] at h2
  rw [g0, g1] at h1
  simp only [bs, ift, m_errands] at h1 h2
  rw [eX, if_pos (show nI E < 5 from nI_lt (b := 5) hE (by decide))] at h1
  rw [eW, if_neg (show ¬ nI E = 5 from fun q => by have := (nI_eq (b := 5) (by omega) (by decide)).mp q; omega), at29, at30, ck_in (by omega) (by decide), nI_clamp (by omega), bnd_eq, ck_in (by omega) (by decide), if_neg (by decide), bnd_eq, if_neg (by decide), nI_clamp (by omega), show (28 : Int32).toNatClampNeg = 28 from by decide, pk_un (by omega), pk_un (by omega), eW, nI_1] at h2
  have h2 := Option.some.inj h2
  cases hA : f_X9_addErrand vd k0 k1 with
  | none => rw [hA] at h1; cases h1
  | some vd' =>
    rw [hA, bs] at h1
    have h1 := Option.some.inj h1
    refine ⟨vd', rfl, ?_⟩
    unfold Dr
    rw [ext_upd (by decide), ext_upd (by omega), ext_upd (by omega)]
    have hI := hI.1
    rw [← h1, ← h2] at hI
    exact hI
theorem dr_damp {N : Nat} (hN : 200000 ≤ N) {vd : US} {nx : Nat → Int32} (h : Dr vd nx) {k0 : Int32} (g0 : f_X11_within k0 0 9 = some true) : Dr (upi vd 6 k0) (upd nx 26 k0) := by
  obtain ⟨rx, rm, h1, h2, -, hI⟩ := sim_damp hN (dr_inv h) k0
  unfold f_X11_damp at h1
  unfold f_X12_damp at h2
  rw [show f_X12_in k0.toInt64 0 9 = f_X11_within k0 0 9 from in_w k0 0 9, g0] at h2
  rw [g0] at h1
  simp only [bs, ift] at h1 h2
  rw [if_neg (by decide), if_neg (by decide), show (26 : Int32).toNatClampNeg = 26 from by decide] at h2
  have h1 := Option.some.inj h1
  have h2 := Option.some.inj h2
  unfold Dr
  rw [ext_upd (by decide)]
  have hI := hI.1
  rw [← h1, ← h2] at hI
  exact hI
theorem dr_cut {N : Nat} (hN : 200000 ≤ N) {vd : US} {nx : Nat → Int32} (h : Dr vd nx) {t T : Nat} (hT : T ≤ 5) (ht : t < T) (eX : vd.1 0 = nI T) (eM : nx 0 = nI T) (gb : f_X11_has (vd.1 5) (nI t) = some true) (gm : ¬ nx (5 + 5 * t) = 0) : Dr (upi vd 5 (vd.1 5 ^^^ (1 <<< (nI t &&& 31)))) (upd nx (5 + 5 * t) 0) := by
  obtain ⟨rx, rm, h1, h2, -, hI⟩ := sim_rope hN (dr_inv h) (nI t) false
  have eW : ext nx 0 = nI T := (ext_lt (by decide)).trans eM
  have g0 : f_X9_hasThing vd (nI t) = some true := by
    unfold f_X9_hasThing f_X11_within
    rw [eX, if_neg (nI_pos (by omega)), show nI T - 1 = nI (T - 1) from pk_sub (a := T) (b := 1) (by omega), if_neg (nI_nlt (by omega) (by omega)), bs]
  unfold f_X11_rope at h1
  unfold f_X12_rope b_X12_rope_24 at h2
  rw [ht_m (eX.trans eW.symm), g0] at h2
  rw [g0, bs, ift, gb, bs, if_neg (by decide)] at h1
  rw [bs, ift, iff0, show f_X12_of z0US (ext nx) (nI t) 4 = some (ext nx (1 + 5 * t + 4)) from of_m (t := t) (k := 4) (by omega) (by decide), bs, show 1 + 5 * t + 4 = 5 + 5 * t by omega, ext_lt (by omega), if_neg gm] at h2
  have f5 : (1 : Int32) + 5 * nI t + 4 = nI (5 + 5 * t) := by
    rw [show (1 : Int32) = nI 1 from rfl, show (5 : Int32) = nI 5 from rfl, show (4 : Int32) = nI 4 from rfl, pk_mul, nI_add, nI_add]
    congr 1
    omega
  rw [f5, ck_in (by omega) (by decide), nI_clamp (by omega)] at h2
  have h1 := Option.some.inj h1
  have h2 := Option.some.inj h2
  unfold Dr
  rw [ext_upd (by omega)]
  have hI := hI.1
  rw [← h1, ← h2] at hI
  exact hI
